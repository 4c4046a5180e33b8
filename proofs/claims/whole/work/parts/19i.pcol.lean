/-! PURE 17: column -/
def rtp (t : Int × Nat × Int) (w : Nat) : Int × Nat × Int := if -t.2.2 ≤ (w : Int) then t else if 0 < (nd t.2.1 : Int) + t.2.2 + (w : Int) then rN ((nd t.2.1 : Int) + t.2.2 + (w : Int)).toNat t else if (nd t.2.1 : Int) + t.2.2 + (w : Int) = 0 ∧ 5 ≤ dz t.2.1 0 then (t.1, 1, -(w : Int)) else (0, 0, 0)
theorem rtp_ok {t : Int × Nat × Int} {w : Nat} (H : okN 1501 20 t) : okN 1600 20 (rtp t w) := by
  obtain ⟨o1, o2, o3, o4, o5, o6⟩ := id H
  unfold rtp
  by_cases q : -t.2.2 ≤ (w : Int)
  · rw [if_pos q]
    exact okN_w H (by omega) (by omega)
  rw [if_neg q]
  by_cases q2 : 0 < (nd t.2.1 : Int) + t.2.2 + (w : Int)
  · rw [if_pos q2]
    exact okN_w (rN_ok (by omega) H) (by omega) (by omega)
  rw [if_neg q2]
  by_cases q3 : (nd t.2.1 : Int) + t.2.2 + (w : Int) = 0 ∧ 5 ≤ dz t.2.1 0
  · rw [if_pos q3]
    have hc : t.2.1 ≠ 0 := fun z => by
      have := o3 z
      omega
    refine ⟨o1, ⟨fun z => absurd (o2.mp z) hc, fun z => absurd z Nat.one_ne_zero⟩, fun z => absurd z Nat.one_ne_zero, ?_, ?_, ?_⟩
    · show -((1600 : Nat) : Int) ≤ -(w : Int)
      omega
    · show -(w : Int) ≤ ((1600 : Nat) : Int)
      omega
    · show nd 1 ≤ 20
      rw [nd_1]
      omega
  · rw [if_neg q3]
    exact okN_0
theorem C_57 {w : Nat} {x : Int} {h : Hp} (hx : isS x) : ∃ h', f_N_roundToPlaces_57 29 (iI (w : Int)) (iI x) h = some ((), h') ∧ isN h' 29 x (if x = 0 then 0 else 1) (if x = 0 then 0 else -(w : Int)) ∧ kp h h' 29 30 := by
  unfold isS at hx
  obtain ⟨h1, e1, N1, k1⟩ := N_unit (h := h) (i := 29) (s := x) (by decide) ⟨by omega, by omega⟩
  obtain ⟨h2, e2, N2, k2⟩ := N_settle (s := x) (e := -(w : Int)) N1.1
  unfold f_N_roundToPlaces_57
  rw [bd_t e1, iI_neg, bd_t e2]
  refine ⟨h2, rfl, ?_, kp_t k1 k2⟩
  by_cases q : x = 0
  · rw [if_pos q] at N2 ⊢
    rw [if_pos rfl, if_pos rfl] at N2
    rw [if_pos q, q]
    exact N2
  · rw [if_neg q] at N2 ⊢
    rw [if_neg (by decide), if_neg (by decide)] at N2
    rw [if_neg q]
    exact N2
theorem C_rtp {t : Int × Nat × Int} {w : Nat} {h : Hp} (hw : w < 2147483648) (H : okN 1501 20 t) (N : isN h 29 t.1 t.2.1 t.2.2) : ∃ h', f_N_roundToPlaces 29 (iI (w : Int)) h = some ((), h') ∧ isN h' 29 (rtp t w).1 (rtp t w).2.1 (rtp t w).2.2 ∧ kp h h' 29 30 := by
  obtain ⟨o1, o2, o3, o4, o5, o6⟩ := id H
  obtain ⟨x, ex, hx1, hx2, hx3⟩ : ∃ x : Int, (if 0 ≤ t.2.2 then (0 : Int) else -t.2.2) = x ∧ (x ≤ (w : Int) ↔ -t.2.2 ≤ (w : Int)) ∧ 0 ≤ x ∧ x ≤ 1501 := by
    by_cases q : 0 ≤ t.2.2
    · exact ⟨0, if_pos q, by omega, by omega, by omega⟩
    · exact ⟨-t.2.2, if_neg q, by omega, by omega, by omega⟩
  unfold f_N_roundToPlaces
  rw [bd_t (N_places ⟨by omega, by omega⟩ N), ex]
  by_cases q : -t.2.2 ≤ (w : Int)
  · have er : rtp t w = t := if_pos q
    rw [if_neg (by rw [iI_lt ⟨by omega, by omega⟩ ⟨by omega, by omega⟩]; omega), er]
    exact ⟨h, rfl, N, kp_r _ _ _⟩
  rw [if_pos (by rw [iI_lt ⟨by omega, by omega⟩ ⟨by omega, by omega⟩]; omega), bd_t (N_ahead N), iI_add]
  have zero : (nd t.2.1 : Int) + t.2.2 + (w : Int) ≤ 0 → ¬ ((nd t.2.1 : Int) + t.2.2 + (w : Int) = 0 ∧ 5 ≤ dz t.2.1 0) → ∃ h', f_N_roundToPlaces_57 29 (iI (w : Int)) 0 h = some ((), h') ∧ isN h' 29 (rtp t w).1 (rtp t w).2.1 (rtp t w).2.2 ∧ kp h h' 29 30 := by
    intro q2 q3
    have er : rtp t w = (0, 0, 0) := by
      unfold rtp
      rw [if_neg q, if_neg (by omega), if_neg q3]
    obtain ⟨h1, e1, N1, k1⟩ := C_57 (w := w) (x := 0) (h := h) (Or.inl rfl)
    rw [er]
    exact ⟨h1, e1, N1, k1⟩
  by_cases q2 : 0 < (nd t.2.1 : Int) + t.2.2 + (w : Int)
  · have er : rtp t w = rN ((nd t.2.1 : Int) + t.2.2 + (w : Int)).toNat t := by
      unfold rtp
      rw [if_neg q, if_pos q2]
    rw [if_neg (by rw [i0, iI_le ⟨by omega, by omega⟩ ⟨by omega, by omega⟩]; omega)]
    obtain ⟨h1, e1, N1, k1⟩ := N_roundTo (n := ((nd t.2.1 : Int) + t.2.2 + (w : Int)).toNat) N (by omega) (by omega)
    rw [show ((((nd t.2.1 : Int) + t.2.2 + (w : Int)).toNat : Nat) : Int) = (nd t.2.1 : Int) + t.2.2 + (w : Int) by omega] at e1
    rw [bd_t e1, er]
    exact ⟨h1, rfl, N1, k1⟩
  rw [if_pos (by rw [i0, iI_le ⟨by omega, by omega⟩ ⟨by omega, by omega⟩]; omega)]
  by_cases q3 : (nd t.2.1 : Int) + t.2.2 + (w : Int) = 0
  · rw [if_pos (by rw [q3]; rfl)]
    have ed := N_digit (z := 0) N.1 ⟨by omega, by omega⟩
    rw [bd_t (show f_N_digit 29 0 h = _ from ed)]
    have dl := dz_lt t.2.1 0
    by_cases q4 : 5 ≤ dz t.2.1 0
    · rw [if_neg (by rw [show (5 : Int32) = iI 5 from rfl, iI_lt ⟨by omega, by omega⟩ ⟨by omega, by omega⟩]; omega), if_neg (by decide), N.2.2]
      have er : rtp t w = (t.1, 1, -(w : Int)) := by
        unfold rtp
        rw [if_neg q, if_neg q2, if_pos ⟨q3, q4⟩]
      have hs : t.1 ≠ 0 := fun z => by
        have := o3 (o2.mp z)
        omega
      obtain ⟨h1, e1, N1, k1⟩ := C_57 (w := w) (x := t.1) (h := h) o1
      rw [if_neg hs, if_neg hs] at N1
      rw [er]
      exact ⟨h1, e1, N1, k1⟩
    · rw [if_pos (by rw [show (5 : Int32) = iI 5 from rfl, iI_lt ⟨by omega, by omega⟩ ⟨by omega, by omega⟩]; omega), if_pos (by rfl)]
      exact zero (by omega) (by omega)
  · rw [if_neg (by rw [i0, iI_eq ⟨by omega, by omega⟩ ⟨by omega, by omega⟩]; omega), if_pos (by rfl)]
    exact zero (by omega) (by omega)
def cpl (n e : Int) : Nat := if n < 0 then (-e).toNat else n.toNat
def sp_col2 (u : Int × Nat × Int) (w : Nat) (m : Int) (b : Nat) (s : St) : Int32 × St := if 0 ≤ m ∧ m < (pA u : Int) then (iI (-40), s) else sp_lay u (if m < 0 then pA u else m.toNat) w b s
def sp_col (a m n b : Int) (s : St) : Int32 × St := if isReg a ∧ isReg b ∧ -1 ≤ m ∧ -1 ≤ n then (match ldN s.2.2.1 (s.2.1 a.toNat) with
  | none => (iI (-41), s)
  | some t => sp_col2 (rtp t (cpl n t.2.2)) (cpl n t.2.2) m b.toNat s) else (iI (-1), s)
theorem C_column {a m n b : Int} {s : St} {h : Hp} (ha : bI a) (hm : bI m) (hn : bI n) (hb : bI b) (H : SC h s) (ok : okS s) : ∃ h', f_D_column (iI a) (iI m) (iI n) (iI b) h = some ((sp_col a m n b s).1, h') ∧ SC h' (sp_col a m n b s).2 ∧ okS (sp_col a m n b s).2 ∧ lo h h' := by
  have bad : ¬ (isReg a ∧ isReg b ∧ -1 ≤ m ∧ -1 ≤ n) → ∃ h', some ((-1 : Int32), h) = some ((sp_col a m n b s).1, h') ∧ SC h' (sp_col a m n b s).2 ∧ okS (sp_col a m n b s).2 ∧ lo h h' := fun q => by
    unfold sp_col
    rw [if_neg q]
    exact ⟨h, rfl, H, ok, lo_r _⟩
  unfold f_D_column
  rw [bd_t (C_find ha), bd_t (C_find hb)]
  by_cases q3 : ¬ isReg a
  · rw [oq_n q3]; exact bad (by omega)
  have q3 := Decidable.not_not.mp q3
  by_cases q4 : ¬ isReg b
  · rw [oq_y q3, oq_n q4]; exact bad (by omega)
  have q4 := Decidable.not_not.mp q4
  rw [oq_y q3, oq_y q4]
  by_cases q1 : m < -1
  · rw [if_pos (by rw [im1, iI_lt ⟨by omega, by omega⟩ ⟨by omega, by omega⟩]; omega)]; exact bad (by omega)
  rw [if_neg (by rw [im1, iI_lt ⟨by omega, by omega⟩ ⟨by omega, by omega⟩]; omega)]
  by_cases q2 : n < -1
  · rw [if_neg (by rw [im1, iI_le ⟨by omega, by omega⟩ ⟨by omega, by omega⟩]; omega)]; exact bad (by omega)
  rw [if_pos (by rw [im1, iI_le ⟨by omega, by omega⟩ ⟨by omega, by omega⟩]; omega), H.2.2.1]
  unfold sp_col
  rw [if_pos (show isReg a ∧ isReg b ∧ -1 ≤ m ∧ -1 ≤ n by omega)]
  have hd := ok.2.2
  obtain ⟨h1, e1, k1, n1⟩ := C_load (i := 4 + 2 * a.toNat) (j := 29) (n := s.2.2.1) (by omega) (by omega) (ok.2.1 a.toNat (by omega)).1 rfl (by omega) (by omega) (H.2.1 a.toNat (by omega))
  rw [bd_t e1]
  have f1 : fr h h1 := fr_kr (by omega) (by omega) k1
  cases hx : ldN s.2.2.1 (s.2.1 a.toNat) with
  | none =>
    rw [if_pos (by simp; decide)]
    exact ⟨h1, rfl, SC_fr H f1, ok, lo_fr f1⟩
  | some t =>
    rw [if_neg (by simp; decide)]
    have okt := okN_w (ldN_ok (n := s.2.2.1) (by omega) (ok.2.1 a.toNat (by omega)).1 hx) (Nat.le_refl 1501) (show s.2.2.1 ≤ 20 by omega)
    have N := n1 t hx
    obtain ⟨o1, o2, o3, o4, o5, o6⟩ := id okt
    have tail : ∀ w : Nat, w < 2147483648 → ∃ h', f_D_column_72 (iI m) (4 + 2 * b.toNat) (iI (w : Int)) h1 = some ((sp_col2 (rtp t w) w m b.toNat s).1, h') ∧ SC h' (sp_col2 (rtp t w) w m b.toNat s).2 ∧ okS (sp_col2 (rtp t w) w m b.toNat s).2 ∧ lo h h' := by
      intro w hw
      obtain ⟨h2, e2, N2, k2⟩ := C_rtp hw okt N
      have f2 : fr h h2 := fr_t f1 (fr_kp (by omega) (by omega) (by omega) (by omega) k2)
      obtain ⟨p1, p2, p3, p4, p5, p6⟩ := rtp_ok (w := w) okt
      have pb : pA (rtp t w) ≤ 10000 := by
        unfold pA aA
        split <;> omega
      unfold f_D_column_72
      rw [bd_t e2, bd_t (C_ahead p1 (by omega) ⟨by omega, by omega⟩ N2)]
      unfold sp_col2
      by_cases g : m < 0
      · rw [if_neg (by rw [i0, iI_le ⟨by omega, by omega⟩ ⟨by omega, by omega⟩]; omega), if_neg (by omega), if_pos g]
        unfold f_D_column_102
        obtain ⟨h3, e3, S3, k3, l3⟩ := C_lay (t := rtp t w) (r := b.toNat) (A := pA (rtp t w)) (p := w) (by omega) (SC_fr H f2) ok p1 (by omega) ⟨by omega, by omega⟩ N2 (by omega) (by omega) (Nat.le_refl _)
        rw [if_pos (leN (by omega) (by omega) (Nat.le_refl _)), bd_t e3]
        exact ⟨h3, rfl, S3, k3, lo_t (lo_fr f2) l3⟩
      · rw [if_pos (by rw [i0, iI_le ⟨by omega, by omega⟩ ⟨by omega, by omega⟩]; omega)]
        unfold f_D_column_102
        by_cases g2 : m < (pA (rtp t w) : Int)
        · rw [if_neg (by rw [iI_le ⟨by omega, by omega⟩ ⟨by omega, by omega⟩]; omega), if_pos (by omega)]
          exact ⟨h2, rfl, SC_fr H f2, ok, lo_fr f2⟩
        · obtain ⟨h3, e3, S3, k3, l3⟩ := C_lay (t := rtp t w) (r := b.toNat) (A := m.toNat) (p := w) (by omega) (SC_fr H f2) ok p1 (by omega) ⟨by omega, by omega⟩ N2 (by omega) (by omega) (by omega)
          rw [show ((m.toNat : Nat) : Int) = m by omega] at e3
          rw [if_pos (by rw [iI_le ⟨by omega, by omega⟩ ⟨by omega, by omega⟩]; omega), if_neg (by omega), if_neg g, bd_t e3]
          exact ⟨h3, rfl, S3, k3, lo_t (lo_fr f2) l3⟩
    show ∃ h', _ = some ((sp_col2 (rtp t (cpl n t.2.2)) (cpl n t.2.2) m b.toNat s).1, h') ∧ SC h' (sp_col2 (rtp t (cpl n t.2.2)) (cpl n t.2.2) m b.toNat s).2 ∧ okS (sp_col2 (rtp t (cpl n t.2.2)) (cpl n t.2.2) m b.toNat s).2 ∧ _
    by_cases g : n < 0
    · have ec : cpl n t.2.2 = (-t.2.2).toNat := if_pos g
      have ex : (if 0 ≤ t.2.2 then (0 : Int) else -t.2.2) = ((-t.2.2).toNat : Int) := by split <;> omega
      rw [if_neg (by rw [i0, iI_le ⟨by omega, by omega⟩ ⟨by omega, by omega⟩]; omega), bd_t (N_places ⟨by omega, by omega⟩ N), ex, ec]
      exact tail _ (by omega)
    · have ec : cpl n t.2.2 = n.toNat := if_neg g
      have := tail n.toNat (by omega)
      rw [show ((n.toNat : Nat) : Int) = n by omega] at this
      rw [if_pos (by rw [i0, iI_le ⟨by omega, by omega⟩ ⟨by omega, by omega⟩]; omega), ec]
      exact this
-- ===== the reference =====
theorem M_311 {r w c : Nat} {sg e : Int} {s : St} {g : Hp} {bs : List Nat} (hr : r < 10) (hw : w ≤ 1500) (H : SR g s) (ok : okS s) (M : isM g 0 sg c e) (hz : c = 0 → e = 0) (hc : nd c ≤ 20) (he : -1600 ≤ e ∧ e ≤ 1600) (W : isW g bs) (hb : bs.length ≤ 5000) : ∃ h', f_M_column_311 (iI (r : Int)) (iI (w : Int)) g = some ((sp_fit (bs ++ plT c e (aA c e) w) r s).1, h') ∧ SR h' (sp_fit (bs ++ plT c e (aA c e) w) r s).2 ∧ hi g h' := by
  have hm : mn c ≤ 20 := by unfold mn; omega
  have ab : aA c e ≤ 5000 := by unfold aA; omega
  have eh := M_high (z := 0) (by omega) M
  obtain ⟨h2, e2, S2, l2⟩ := M_fit (a := aA c e) (n := w) hr H ok M ⟨by omega, by omega⟩ W hw ab hb
  unfold f_M_column_311
  rw [bd_t (show f_M_high 0 g = _ from eh)]
  by_cases q2 : (mn c : Int) - 1 + e ≤ 0
  · rw [if_pos (by rw [i0, iI_le ⟨by omega, by omega⟩ ⟨by omega, by omega⟩]; omega)]
    unfold f_M_column_330
    rw [aA_1 hz q2] at e2 S2 ⊢
    exact ⟨h2, e2, S2, l2⟩
  · rw [if_neg (by rw [i0, iI_le ⟨by omega, by omega⟩ ⟨by omega, by omega⟩]; omega), bd_t (show f_M_high 0 g = _ from eh)]
    unfold f_M_column_330
    rw [aA_2 hz (by omega)]
    exact ⟨h2, e2, S2, l2⟩
theorem M_278 {r w A : Nat} {m : Int} {u : Int × Nat × Int} {s : St} {g : Hp} (hr : r < 10) (hw : w ≤ 1500) (hA : A ≤ 2000) (hm : -1 ≤ m ∧ m ≤ (A : Int)) (H : SR g s) (ok : okS s) (M : isM g 0 u.1 u.2.1 u.2.2) (okt : okN 1600 20 u) : ∀ (k n : Nat) (g1 : Hp) (bs : List Nat), k < n → k ≤ A → (0 < k → m = (A : Int)) → kw g g1 → isW g1 bs → bs.length + k ≤ 4000 → ∃ h', f_M_column_278 n (iI m) (iI (r : Int)) (iI (w : Int)) (iI ((A - k : Nat) : Int)) g1 = some ((sp_fit (bs ++ (List.replicate k 32 ++ (sgT u.1 ++ plT u.2.1 u.2.2 (aA u.2.1 u.2.2) w))) r s).1, h') ∧ SR h' (sp_fit (bs ++ (List.replicate k 32 ++ (sgT u.1 ++ plT u.2.1 u.2.2 (aA u.2.1 u.2.2) w))) r s).2 ∧ hi g h' := by
  obtain ⟨o1, o2, o3, o4, o5, o6⟩ := okt
  have c5 : inR 0 5 := inz (z := 0) (by omega)
  have cl0 : Int32.toNatClampNeg 0 = 0 := rfl
  intro k
  induction k with
  | zero =>
    intro n g1 bs hn _ hk K W hb
    obtain ⟨n, rfl⟩ : ∃ q, n = q + 1 := ⟨n - 1, by omega⟩
    have M1 := isM_kw M K
    rw [f_M_column_278, if_pos (by rw [iI_le ⟨by omega, by omega⟩ ⟨by omega, by omega⟩]; omega), chk_t c5]
    simp only [cl0, M1.2.2.1]
    by_cases q : u.1 < 0
    · have es : sgT u.1 = [45] := if_pos q
      rw [if_neg (by rw [i0, iI_le ⟨by omega, by omega⟩ ⟨by unfold isS at o1; omega, by unfold isS at o1; omega⟩]; omega), es]
      obtain ⟨g2, e2, W2, k2⟩ := M_letter (b := 45) W (by omega)
      rw [bd_t (show f_M_letter 45 g1 = _ from e2)]
      obtain ⟨h3, e3, S3, l3⟩ := M_311 hr hw (SR_fw H (fw_kw (kw_t K k2))) ok (isM_kw M1 k2) o3 o6 ⟨by omega, by omega⟩ W2 (by rw [List.length_append]; simp only [List.length_cons, List.length_nil]; omega)
      rw [List.append_assoc] at e3 S3
      exact ⟨h3, e3, S3, hi_t (hi_fw (fw_kw (kw_t K k2))) l3⟩
    · have es : sgT u.1 = [] := if_neg q
      rw [if_pos (by rw [i0, iI_le ⟨by omega, by omega⟩ ⟨by unfold isS at o1; omega, by unfold isS at o1; omega⟩]; omega), es]
      obtain ⟨h3, e3, S3, l3⟩ := M_311 hr hw (SR_fw H (fw_kw K)) ok M1 o3 o6 ⟨by omega, by omega⟩ W (by omega)
      exact ⟨h3, e3, S3, hi_t (hi_fw (fw_kw K)) l3⟩
  | succ k ih =>
    intro n g1 bs hn hkA hk K W hb
    obtain ⟨n, rfl⟩ : ∃ q, n = q + 1 := ⟨n - 1, by omega⟩
    have := hk (by omega)
    rw [f_M_column_278, if_neg (by rw [iI_le ⟨by omega, by omega⟩ ⟨by omega, by omega⟩]; omega)]
    obtain ⟨g2, e2, W2, k2⟩ := M_letter (b := 32) W (by omega)
    rw [bd_t (show f_M_letter 32 g1 = _ from e2), scN, show A - (k + 1) + 1 = A - k by omega]
    obtain ⟨h3, e3, S3, l3⟩ := ih n g2 (bs ++ [32]) (by omega) (by omega) (fun _ => this) (kw_t K k2) W2 (by rw [List.length_append]; simp only [List.length_cons, List.length_nil]; omega)
    have ew : (bs ++ [32]) ++ (List.replicate k 32 ++ (sgT u.1 ++ plT u.2.1 u.2.2 (aA u.2.1 u.2.2) w)) = bs ++ (List.replicate (k + 1) 32 ++ (sgT u.1 ++ plT u.2.1 u.2.2 (aA u.2.1 u.2.2) w)) := by
      rw [List.replicate_succ, List.append_assoc]
      rfl
    rw [ew] at e3 S3
    exact ⟨h3, e3, S3, l3⟩
theorem fit_lay {u : Int × Nat × Int} {A w r : Nat} {s : St} (h : pA u ≤ A) : sp_fit (List.replicate (A - pA u) 32 ++ (sgT u.1 ++ plT u.2.1 u.2.2 (aA u.2.1 u.2.2) w)) r s = sp_lay u A w r s := by
  unfold sp_fit sp_lay
  rw [List.length_append, List.length_replicate, lay_len, show A - pA u + (pA u + (if w = 0 then 0 else w + 1)) = A + (if w = 0 then 0 else w + 1) by omega]
theorem M_230 {r w : Nat} {m : Int} {u : Int × Nat × Int} {s : St} {g : Hp} (hr : r < 10) (hw : w < 2147483648) (hm : bI m) (hm1 : -1 ≤ m) (hp : m < 0 ∨ (pA u : Int) ≤ m) (H : SR g s) (ok : okS s) (M : isM g 0 u.1 u.2.1 u.2.2) (okt : okN 1600 20 u) : ∃ h', f_M_column_230 (iI m) (iI (r : Int)) (iI (w : Int)) (iI (pA u : Int)) g = some ((sp_lay u (if m < 0 then pA u else m.toNat) w r s).1, h') ∧ SR h' (sp_lay u (if m < 0 then pA u else m.toNat) w r s).2 ∧ hi g h' := by
  obtain ⟨o1, o2, o3, o4, o5, o6⟩ := id okt
  have pb : pA u ≤ 10000 := by
    unfold pA aA
    split <;> omega
  obtain ⟨A, eA, hA⟩ : ∃ A : Nat, (if m < 0 then pA u else m.toNat) = A ∧ ((m < 0 ∧ A = pA u) ∨ (0 ≤ m ∧ A = m.toNat)) := by
    by_cases q : m < 0
    · exact ⟨_, if_pos q, Or.inl ⟨q, rfl⟩⟩
    · exact ⟨_, if_neg q, Or.inr ⟨by omega, rfl⟩⟩
  rw [eA]
  have hpA : pA u ≤ A := by omega
  have far : (1500 < m ∨ 1400 < w ∨ 200 < A + w) → sp_lay u A w r s = (iI (-5), s) := fun q => by
    unfold sp_lay
    by_cases z : w = 0
    · rw [if_neg (by rw [if_pos z]; omega)]
    · rw [if_neg (by rw [if_neg z]; omega)]
  unfold f_M_column_230
  by_cases q1 : 1500 < m
  · rw [if_pos (by rw [show (1500 : Int32) = iI 1500 from rfl, iI_lt ⟨by omega, by omega⟩ ⟨by omega, by omega⟩]; omega), far (Or.inl q1)]
    exact ⟨g, rfl, H, hi_r _⟩
  rw [if_neg (by rw [show (1500 : Int32) = iI 1500 from rfl, iI_lt ⟨by omega, by omega⟩ ⟨by omega, by omega⟩]; omega)]
  by_cases q2 : 1400 < w
  · rw [if_pos (by rw [show (1400 : Int32) = iI 1400 from rfl, iI_lt ⟨by omega, by omega⟩ ⟨by omega, by omega⟩]; omega), far (Or.inr (Or.inl q2))]
    exact ⟨g, rfl, H, hi_r _⟩
  rw [if_neg (by rw [show (1400 : Int32) = iI 1400 from rfl, iI_lt ⟨by omega, by omega⟩ ⟨by omega, by omega⟩]; omega)]
  have tail : ∃ h', f_M_column_257 (iI m) (iI (r : Int)) (iI (w : Int)) (iI (pA u : Int)) (iI (A : Int)) g = some ((sp_lay u A w r s).1, h') ∧ SR h' (sp_lay u A w r s).2 ∧ hi g h' := by
    unfold f_M_column_257
    rw [iI_add]
    by_cases q3 : 200 < A + w
    · rw [if_neg (by rw [show (200 : Int32) = iI 200 from rfl, iI_le ⟨by omega, by omega⟩ ⟨by omega, by omega⟩]; omega), far (Or.inr (Or.inr q3))]
      exact ⟨g, rfl, H, hi_r _⟩
    · rw [if_pos (by rw [show (200 : Int32) = iI 200 from rfl, iI_le ⟨by omega, by omega⟩ ⟨by omega, by omega⟩]; omega)]
      obtain ⟨h2, e2, S2, l2⟩ := M_278 (r := r) (w := w) (A := A) (m := m) hr (by omega) (by omega) ⟨hm1, by omega⟩ H ok M okt (A - pA u) fuel (up2 g 46 13 0) [] (by unfold fuel; omega) (by omega) (by omega) (kw_0 g 0) (isW_0 g) (by rw [List.length_nil]; omega)
      rw [show A - (A - pA u) = pA u by omega] at e2
      rw [← fit_lay hpA]
      exact ⟨h2, e2, S2, l2⟩
  by_cases q4 : m ≤ (pA u : Int)
  · rw [if_pos (by rw [iI_le ⟨by omega, by omega⟩ ⟨by omega, by omega⟩]; omega)]
    rw [show A = pA u by omega] at tail ⊢
    exact tail
  · rw [if_neg (by rw [iI_le ⟨by omega, by omega⟩ ⟨by omega, by omega⟩]; omega)]
    rw [show (A : Int) = m by omega] at tail
    exact tail
theorem M_195 {r w : Nat} {m : Int} {u : Int × Nat × Int} {s : St} {g : Hp} {x : Int32} (hr : r < 10) (hw : w < 2147483648) (hm : bI m) (hm1 : -1 ≤ m) (H : SR g s) (ok : okS s) (M : isM g 0 u.1 u.2.1 u.2.2) (okt : okN 1600 20 u) (hx : x = iI ((if u.1 < 0 then 1 else 0 : Nat) : Int)) : ∃ h', f_M_column_195 (iI m) (iI (r : Int)) (iI (w : Int)) x g = some ((sp_col2 u w m r s).1, h') ∧ SR h' (sp_col2 u w m r s).2 ∧ hi g h' := by
  obtain ⟨o1, o2, o3, o4, o5, o6⟩ := id okt
  have hmn : mn u.2.1 ≤ 20 := by unfold mn; omega
  have pb : pA u ≤ 10000 := by
    unfold pA aA
    split <;> omega
  have t214 : ∀ a b : Int32, a + b = iI (pA u : Int) → ∃ h', f_M_column_214 (iI m) (iI (r : Int)) (iI (w : Int)) a b g = some ((sp_col2 u w m r s).1, h') ∧ SR h' (sp_col2 u w m r s).2 ∧ hi g h' := by
    intro a b hab
    unfold f_M_column_214 sp_col2
    rw [hab]
    by_cases q : m < 0
    · rw [if_pos (by rw [i0, iI_lt ⟨by omega, by omega⟩ ⟨by omega, by omega⟩]; omega), if_neg (by omega)]
      exact M_230 hr hw hm hm1 (Or.inl q) H ok M okt
    · rw [if_neg (by rw [i0, iI_lt ⟨by omega, by omega⟩ ⟨by omega, by omega⟩]; omega)]
      by_cases q2 : (pA u : Int) ≤ m
      · rw [if_pos (by rw [iI_le ⟨by omega, by omega⟩ ⟨by omega, by omega⟩]; omega), if_neg (by omega)]
        exact M_230 hr hw hm hm1 (Or.inr q2) H ok M okt
      · rw [if_neg (by rw [iI_le ⟨by omega, by omega⟩ ⟨by omega, by omega⟩]; omega), if_pos (by omega)]
        exact ⟨g, rfl, H, hi_r _⟩
  have eh := M_high (z := 0) (by omega) M
  unfold f_M_column_195
  rw [bd_t (show f_M_high 0 g = _ from eh)]
  by_cases q2 : (mn u.2.1 : Int) - 1 + u.2.2 ≤ 0
  · rw [if_pos (by rw [i0, iI_le ⟨by omega, by omega⟩ ⟨by omega, by omega⟩]; omega)]
    refine t214 _ _ ?_
    unfold pA
    rw [aA_1 o3 q2, hx, scN, Nat.add_comm]
  · rw [if_neg (by rw [i0, iI_le ⟨by omega, by omega⟩ ⟨by omega, by omega⟩]; omega), bd_t (show f_M_high 0 g = _ from eh)]
    refine t214 _ _ ?_
    unfold pA
    rw [aA_2 o3 (by omega), hx, i1, iI_add, iI_add]
    congr 1
    omega
theorem M_col101 {r w : Nat} {m : Int} {t : Int × Nat × Int} {s : St} {h : Hp} (hr : r < 10) (hw : w < 2147483648) (hm : bI m) (hm1 : -1 ≤ m) (H : SR h s) (ok : okS s) (M : isM h 0 t.1 t.2.1 t.2.2) (okt : okN 1501 20 t) : ∃ h', f_M_column_76 (iI m) (iI (r : Int)) (iI (w : Int)) h = some ((sp_col2 (rtp t w) w m r s).1, h') ∧ SR h' (sp_col2 (rtp t w) w m r s).2 ∧ hi h h' := by
  obtain ⟨o1, o2, o3, o4, o5, o6⟩ := id okt
  have hmn : mn t.2.1 ≤ 20 := by unfold mn; omega
  have c5 : inR 0 5 := inz (z := 0) (by omega)
  have c13 : inR 0 13000 := iI_inR (a := 0) (by omega) (by omega) (by omega)
  have cl0 : Int32.toNatClampNeg 0 = 0 := rfl
  have fin : ∀ (g : Hp) (u : Int × Nat × Int), rtp t w = u → km h g 0 → isM g 0 u.1 u.2.1 u.2.2 → ∃ h', (if 0 ≤ (g 53 0) then f_M_column_195 (iI m) (iI (r : Int)) (iI (w : Int)) 0 g else f_M_column_195 (iI m) (iI (r : Int)) (iI (w : Int)) 1 g) = some ((sp_col2 (rtp t w) w m r s).1, h') ∧ SR h' (sp_col2 (rtp t w) w m r s).2 ∧ hi h h' := by
    intro g u eu kg Mg
    have ou := rtp_ok (w := w) okt
    rw [eu] at ou ⊢
    have ou1 := ou.1
    unfold isS at ou1
    rw [Mg.2.2.1]
    by_cases q : u.1 < 0
    · rw [if_neg (by rw [i0, iI_le ⟨by omega, by omega⟩ ⟨by omega, by omega⟩]; omega)]
      obtain ⟨h2, e2, S2, l2⟩ := M_195 (x := 1) (w := w) hr hw hm hm1 (SR_fw H (fw_km kg)) ok Mg ou (by rw [if_pos q]; rfl)
      exact ⟨h2, e2, S2, hi_t (hi_fw (fw_km kg)) l2⟩
    · rw [if_pos (by rw [i0, iI_le ⟨by omega, by omega⟩ ⟨by omega, by omega⟩]; omega)]
      obtain ⟨h2, e2, S2, l2⟩ := M_195 (x := 0) (w := w) hr hw hm hm1 (SR_fw H (fw_km kg)) ok Mg ou (by rw [if_neg q]; rfl)
      exact ⟨h2, e2, S2, hi_t (hi_fw (fw_km kg)) l2⟩
  have zero : rtp t w = (0, 0, 0) → ∃ h', f_M_column_124 (iI m) (iI (r : Int)) (iI (w : Int)) h = some ((sp_col2 (rtp t w) w m r s).1, h') ∧ SR h' (sp_col2 (rtp t w) w m r s).2 ∧ hi h h' := by
    intro eu
    obtain ⟨h1, e1, M1, k1⟩ := M_zero (h := h) (z := 0) (by omega)
    unfold f_M_column_124
    rw [bd_t (show f_M_zero 0 h = _ from e1), chk_t c5]
    exact fin h1 _ eu k1 M1
  have t132 : ∀ K : Int, 0 < K → K < 100000 → ((mn t.2.1 : Int) ≤ K → rtp t w = t) → (K < (mn t.2.1 : Int) → rtp t w = rN K.toNat t) → ∃ h', f_M_column_132 (iI m) (iI (r : Int)) (iI (w : Int)) (iI K) h = some ((sp_col2 (rtp t w) w m r s).1, h') ∧ SR h' (sp_col2 (rtp t w) w m r s).2 ∧ hi h h' := by
    intro K hK hK2 g1 g2
    unfold f_M_column_132
    rw [if_neg (by rw [i0, iI_eq ⟨by omega, by omega⟩ ⟨by omega, by omega⟩]; omega), chk_t c5]
    simp only [cl0, M.1]
    by_cases q : (mn t.2.1 : Int) ≤ K
    · rw [if_pos (by rw [iI_le ⟨by omega, by omega⟩ ⟨by omega, by omega⟩]; omega), chk_t c5]
      exact fin h t (g1 q) (km_r _ _) M
    · rw [if_neg (by rw [iI_le ⟨by omega, by omega⟩ ⟨by omega, by omega⟩]; omega)]
      obtain ⟨h1, e1, M1, k1⟩ := M_round (z := 0) (n := K.toNat) (by omega) M (by omega) (by omega)
      rw [show ((K.toNat : Nat) : Int) = K by omega] at e1
      rw [bd_t (show f_M_round 0 (iI K) h = _ from e1), chk_t c5]
      exact fin h1 _ (g2 (by omega)) k1 M1
  have eh := M_high (z := 0) (by omega) M
  have d0 : h 50 0 = iI (dg t.2.1 (mn t.2.1) 0 : Int) := M.2.2.2.2 0 (mn_pos _)
  have dl := dg_lt t.2.1 (mn t.2.1) 0
  have main : ∀ x y : Int32, x + y = iI ((mn t.2.1 : Int) - 1 + t.2.2 + 1 + (min w 5000 : Nat)) → ∃ h', f_M_column_101 (iI m) (iI (r : Int)) (iI (w : Int)) x y h = some ((sp_col2 (rtp t w) w m r s).1, h') ∧ SR h' (sp_col2 (rtp t w) w m r s).2 ∧ hi h h' := by
    intro x y hxy
    unfold f_M_column_101
    rw [hxy]
    simp only [cl0, d0]
    by_cases z : t.2.1 = 0
    · have e0 := o3 z
      rw [z, mn_0, e0]
      have er : rtp t w = t := if_pos (by omega)
      rw [if_neg (by rw [i0, iI_lt ⟨by omega, by omega⟩ ⟨by omega, by omega⟩]; omega), if_neg (by rw [i0, iI_eq ⟨by omega, by omega⟩ ⟨by omega, by omega⟩]; omega)]
      exact t132 _ (by omega) (by omega) (fun _ => er) (fun q => by rw [z, mn_0] at q; omega)
    have hmc := mn_c (c := t.2.1) (by omega)
    have hnp := nd_pos (c := t.2.1) (by omega)
    rw [hmc]
    by_cases q : -t.2.2 ≤ (w : Int)
    · have er : rtp t w = t := if_pos q
      rw [if_neg (by rw [i0, iI_lt ⟨by omega, by omega⟩ ⟨by omega, by omega⟩]; omega), if_neg (by rw [i0, iI_eq ⟨by omega, by omega⟩ ⟨by omega, by omega⟩]; omega)]
      exact t132 _ (by omega) (by omega) (fun _ => er) (fun q => by rw [hmc] at q; omega)
    have hK : (nd t.2.1 : Int) - 1 + t.2.2 + 1 + (min w 5000 : Nat) = (nd t.2.1 : Int) + t.2.2 + (w : Int) := by omega
    rw [hK]
    by_cases q2 : 0 < (nd t.2.1 : Int) + t.2.2 + (w : Int)
    · have er : rtp t w = rN ((nd t.2.1 : Int) + t.2.2 + (w : Int)).toNat t := by
        unfold rtp
        rw [if_neg q, if_pos q2]
      rw [if_neg (by rw [i0, iI_lt ⟨by omega, by omega⟩ ⟨by omega, by omega⟩]; omega), if_neg (by rw [i0, iI_eq ⟨by omega, by omega⟩ ⟨by omega, by omega⟩]; omega)]
      exact t132 _ (by omega) (by omega) (fun q => by rw [hmc] at q; omega) (fun _ => er)
    have edz : dz t.2.1 0 = dg t.2.1 (nd t.2.1) 0 := by
      unfold dz
      rw [if_pos (by omega)]
      rfl
    rw [hmc] at dl
    by_cases q3 : (nd t.2.1 : Int) + t.2.2 + (w : Int) = 0
    · rw [q3, if_neg (by decide), if_pos (by rfl), chk_t c13]
      by_cases q4 : 5 ≤ dz t.2.1 0
      · have er : rtp t w = (t.1, 1, -(w : Int)) := by
          unfold rtp
          rw [if_neg q, if_neg q2, if_pos ⟨q3, q4⟩]
        rw [if_pos (by rw [show (5 : Int32) = iI 5 from rfl, iI_le ⟨by omega, by omega⟩ ⟨by omega, by omega⟩]; omega)]
        unfold f_M_column_132
        rw [if_pos (by rfl), chk_t c13, chk_t c5, chk_t c5, chk_t c5]
        simp only [cl0]
        rw [iI_neg]
        refine fin _ _ er ?_ ?_
        · exact km_t (km_t (km_50 _ 0 0 _ (by omega)) (km_51 _ 0 _)) (km_52 _ 0 _)
        · refine ⟨?_, ?_, ?_, by show mn 1 ≤ 2600; decide, fun k hk => ?_⟩
          · rw [up2_o _ _ _ _ (by omega), up2_s]; rfl
          · rw [up2_s]
          · rw [up2_o _ _ _ _ (by omega), up2_o _ _ _ _ (by omega), up2_o _ _ _ _ (by omega)]; exact M.2.2.1
          · have hk : k < 1 := hk
            rw [show 2600 * 0 + k = 0 by omega, up2_o _ _ _ _ (by omega), up2_o _ _ _ _ (by omega), up2_s, show k = 0 by omega]
            show (1 : Int32) = iI ((dg 1 (mn 1) 0 : Nat) : Int)
            decide
      · have er : rtp t w = (0, 0, 0) := by
          unfold rtp
          rw [if_neg q, if_neg q2, if_neg (fun z => q4 z.2)]
        rw [if_neg (by rw [show (5 : Int32) = iI 5 from rfl, iI_le ⟨by omega, by omega⟩ ⟨by omega, by omega⟩]; omega)]
        exact zero er
    · have er : rtp t w = (0, 0, 0) := by
        unfold rtp
        rw [if_neg q, if_neg q2, if_neg (fun z => q3 z.1)]
      rw [if_pos (by rw [i0, iI_lt ⟨by omega, by omega⟩ ⟨by omega, by omega⟩]; omega)]
      exact zero er
  unfold f_M_column_76
  rw [bd_t (show f_M_high 0 h = _ from eh), i1, iI_add]
  by_cases q : w ≤ 5000
  · rw [if_pos (by rw [show (5000 : Int32) = iI 5000 from rfl, iI_le ⟨by omega, by omega⟩ ⟨by omega, by omega⟩]; omega)]
    refine main _ _ ?_
    rw [iI_add, Nat.min_eq_left q]
  · rw [if_neg (by rw [show (5000 : Int32) = iI 5000 from rfl, iI_le ⟨by omega, by omega⟩ ⟨by omega, by omega⟩]; omega)]
    refine main _ _ ?_
    rw [show (5000 : Int32) = iI 5000 from rfl, iI_add, Nat.min_eq_right (by omega)]
    rfl
theorem M_column {a m n b : Int} {s : St} {h : Hp} (ha : bI a) (hm : bI m) (hn : bI n) (hb : bI b) (H : SR h s) (ok : okS s) : ∃ h', f_M_column (iI a) (iI m) (iI n) (iI b) h = some ((sp_col a m n b s).1, h') ∧ SR h' (sp_col a m n b s).2 ∧ hi h h' := by
  have bad : ¬ (isReg a ∧ isReg b ∧ -1 ≤ m ∧ -1 ≤ n) → ∃ h', some ((-1 : Int32), h) = some ((sp_col a m n b s).1, h') ∧ SR h' (sp_col a m n b s).2 ∧ hi h h' := fun q => by
    unfold sp_col
    rw [if_neg q]
    exact ⟨h, rfl, H, hi_r _⟩
  unfold f_M_column
  rw [bd_t (M_isReg ha)]
  by_cases q3 : ¬ isReg a
  · rw [if_neg q3, if_pos (by rfl)]; exact bad (by omega)
  have q3 := Decidable.not_not.mp q3
  rw [if_pos q3, if_neg (by decide), bd_t (M_isReg hb)]
  by_cases q4 : ¬ isReg b
  · rw [if_neg q4, if_pos (by rfl)]; exact bad (by omega)
  have q4 := Decidable.not_not.mp q4
  rw [if_pos q4, if_neg (by decide)]
  by_cases q1 : n < -1
  · rw [if_pos (by rw [im1, iI_lt ⟨by omega, by omega⟩ ⟨by omega, by omega⟩]; omega)]; exact bad (by omega)
  rw [if_neg (by rw [im1, iI_lt ⟨by omega, by omega⟩ ⟨by omega, by omega⟩]; omega)]
  by_cases q2 : m < -1
  · rw [if_neg (by rw [im1, iI_le ⟨by omega, by omega⟩ ⟨by omega, by omega⟩]; omega)]; exact bad (by omega)
  rw [if_pos (by rw [im1, iI_le ⟨by omega, by omega⟩ ⟨by omega, by omega⟩]; omega)]
  unfold sp_col
  rw [if_pos (show isReg a ∧ isReg b ∧ -1 ≤ m ∧ -1 ≤ n by omega)]
  have hd := ok.2.2
  obtain ⟨a, rfl⟩ : ∃ k : Nat, a = k := ⟨a.toNat, by omega⟩
  obtain ⟨b, rfl⟩ : ∃ k : Nat, b = k := ⟨b.toNat, by omega⟩
  simp only [Int.toNat_natCast]
  obtain ⟨h1, e1, k1, m1⟩ := M_load (n := s.2.2.1) (z := 0) (r := a) (by omega) (by omega) (by omega) (by omega) (H.2.1 a (by omega)) (ok.2.1 a (by omega))
  rw [bd_t (show f_M_read (iI (a : Int)) 0 h = _ from e1)]
  cases hx : ldN s.2.2.1 (s.2.1 a) with
  | none =>
    rw [if_pos (by simp; decide)]
    exact ⟨h1, rfl, SR_fw H (fw_km k1), hi_fw (fw_km k1)⟩
  | some t =>
    rw [if_neg (by simp; decide)]
    have okt := okN_w (ldN_ok (n := s.2.2.1) (by omega) (ok.2.1 a (by omega)).1 hx) (Nat.le_refl 1501) (show s.2.2.1 ≤ 20 by omega)
    obtain ⟨h2, e2, k2, M2⟩ := m1 t hx
    have f2 : fw h h2 := fw_t (fw_km k1) (fw_km k2)
    have e4 : h1 46 4 = iI (s.2.2.1 : Int) := (SR_fw H (fw_km k1)).2.2.1
    rw [e4, bd_t (show f_M_round 0 (iI (s.2.2.1 : Int)) h1 = _ from e2)]
    obtain ⟨o1, o2, o3, o4, o5, o6⟩ := id okt
    have c5 : inR 0 5 := inz (z := 0) (by omega)
    have cl0 : Int32.toNatClampNeg 0 = 0 := rfl
    have tail : ∀ w : Nat, w < 2147483648 → ∃ h', f_M_column_76 (iI m) (iI (b : Int)) (iI (w : Int)) h2 = some ((sp_col2 (rtp t w) w m b s).1, h') ∧ SR h' (sp_col2 (rtp t w) w m b s).2 ∧ hi h h' := by
      intro w hw
      obtain ⟨h3, e3, S3, l3⟩ := M_col101 (r := b) (w := w) (by omega) hw hm (by omega) (SR_fw H f2) ok M2 okt
      exact ⟨h3, e3, S3, hi_t (hi_fw f2) l3⟩
    show ∃ h', _ = some ((sp_col2 (rtp t (cpl n t.2.2)) (cpl n t.2.2) m b s).1, h') ∧ SR h' (sp_col2 (rtp t (cpl n t.2.2)) (cpl n t.2.2) m b s).2 ∧ _
    by_cases g : n < 0
    · have ec : cpl n t.2.2 = (-t.2.2).toNat := if_pos g
      rw [if_pos (by rw [i0, iI_lt ⟨by omega, by omega⟩ ⟨by omega, by omega⟩]; omega), chk_t c5, ec]
      simp only [cl0, M2.2.1]
      have T := tail (-t.2.2).toNat (by omega)
      by_cases g2 : 0 ≤ t.2.2
      · rw [if_pos (by rw [i0, iI_le ⟨by omega, by omega⟩ ⟨by omega, by omega⟩]; omega)]
        rw [show (-t.2.2).toNat = 0 by omega] at T ⊢
        exact T
      · rw [if_neg (by rw [i0, iI_le ⟨by omega, by omega⟩ ⟨by omega, by omega⟩]; omega), chk_t c5, iI_neg]
        rw [show (((-t.2.2).toNat : Nat) : Int) = -t.2.2 by omega] at T
        exact T
    · have ec : cpl n t.2.2 = n.toNat := if_neg g
      have T := tail n.toNat (by omega)
      rw [show ((n.toNat : Nat) : Int) = n by omega] at T
      rw [if_neg (by rw [i0, iI_lt ⟨by omega, by omega⟩ ⟨by omega, by omega⟩]; omega), ec]
      exact T
