/-! PURE 15: whole, about; orders of texts -/
def sp_whole (a : Int) (s : St) : Int32 := if isReg a then (match ldN s.2.2.1 (s.2.1 a.toNat) with
  | none => iI (-2000000000)
  | some t => iI ((wv t.1 t.2.1 t.2.2).getD (-2000000000))) else iI (-2000000001)
theorem C_whole {a : Int} {s : St} {h : Hp} (ha : bI a) (H : SC h s) (ok : okS s) : ∃ h', f_D_whole (iI a) h = some (sp_whole a s, h') ∧ SC h' s ∧ lo h h' := by
  unfold f_D_whole sp_whole
  rw [bd_t (C_find ha)]
  by_cases q3 : ¬ isReg a
  · rw [oq_n q3, if_neg q3]; exact ⟨h, rfl, H, lo_r _⟩
  have q3 := Decidable.not_not.mp q3
  rw [oq_y q3, if_pos q3, H.2.2.1]
  have hd := ok.2.2
  obtain ⟨h1, e1, k1, n1⟩ := C_load (i := 4 + 2 * a.toNat) (j := 29) (n := s.2.2.1) (by omega) (by omega) (ok.2.1 a.toNat (by omega)).1 rfl (by omega) (by omega) (H.2.1 a.toNat (by omega))
  rw [bd_t e1]
  have f1 : fr h h1 := fr_kr (by omega) (by omega) k1
  cases hx : ldN s.2.2.1 (s.2.1 a.toNat) with
  | none =>
    rw [if_pos (by simp; decide)]
    exact ⟨h1, rfl, SC_fr H f1, lo_fr f1⟩
  | some t =>
    rw [if_neg (by simp; decide)]
    have okt := ldN_ok (n := s.2.2.1) (by omega) (ok.2.1 a.toNat (by omega)).1 hx
    obtain ⟨o1, o2, o3, o4, o5, o6⟩ := okt
    rw [bd_t (N_whole (n1 t hx) o1 ⟨by omega, by omega⟩)]
    exact ⟨h1, rfl, SC_fr H f1, lo_fr f1⟩
theorem M_whole {a : Int} {s : St} {h : Hp} (ha : bI a) (H : SR h s) (ok : okS s) : ∃ h', f_M_whole (iI a) h = some (sp_whole a s, h') ∧ SR h' s ∧ hi h h' := by
  unfold f_M_whole sp_whole
  rw [bd_t (M_isReg ha)]
  by_cases q3 : ¬ isReg a
  · rw [if_neg q3, if_pos (by rfl), if_neg q3]; exact ⟨h, rfl, H, hi_r _⟩
  have q3 := Decidable.not_not.mp q3
  rw [if_pos q3, if_neg (by decide), if_pos q3]
  have hd := ok.2.2
  obtain ⟨a, rfl⟩ : ∃ k : Nat, a = k := ⟨a.toNat, by omega⟩
  rw [Int.toNat_natCast]
  obtain ⟨h1, e1, k1, m1⟩ := M_read (z := 0) (r := a) (by omega) (by omega) (H.2.1 a (by omega)) (ok.2.1 a (by omega))
  rw [bd_t (show f_M_read (iI (a : Int)) 0 h = _ from e1)]
  unfold ldN
  cases hx : rdN (s.2.1 a) with
  | none =>
    rw [if_pos (by simp; decide)]
    exact ⟨h1, rfl, SR_fw H (fw_km k1), hi_fw (fw_km k1)⟩
  | some t =>
    rw [if_neg (by simp; decide)]
    have okt := rdN_ok (ok.2.1 a (by omega)).1 hx
    obtain ⟨h2, e2, M2, k2, w2⟩ := M_isWhole (z := 0) (n := s.2.2.1) (s := t.1) (c := t.2.1) (e := t.2.2) (by omega) (by omega) (by omega) (SR_fw H (fw_km k1)).2.2.1 okt (m1 t hx)
    rw [bd_t (show f_M_isWhole 0 h1 = _ from e2)]
    have f2 := fw_t (fw_km k1) (fw_km k2)
    have ho := rN_ok (n := s.2.2.1) (by omega) okt
    show ∃ h', _ = some (iI ((wv t.1 (rnd s.2.2.1 t.2.1 t.2.2).1 (rnd s.2.2.1 t.2.1 t.2.2).2).getD (-2000000000)), h') ∧ _
    cases hy : wv t.1 (rnd s.2.2.1 t.2.1 t.2.2).1 (rnd s.2.2.1 t.2.1 t.2.2).2 with
    | none =>
      rw [if_pos (by simp; decide)]
      exact ⟨h2, rfl, SR_fw H f2, hi_fw f2⟩
    | some v =>
      rw [if_neg (by simp; decide)]
      obtain ⟨b1, b2⟩ := w2 v hy
      have o4 : -(1501 : Int) ≤ (rnd s.2.2.1 t.2.1 t.2.2).2 := ho.2.2.2.1
      have o5 : (rnd s.2.2.1 t.2.1 t.2.2).2 ≤ 1501 := ho.2.2.2.2.1
      have V := M_valueOf (z := 0) (by omega) ho.1 ⟨by omega, by omega⟩ b1 M2
      rw [bd_t (show f_M_valueOf 0 h2 = _ from V)]
      rw [b2]
      exact ⟨h2, rfl, SR_fw H f2, hi_fw f2⟩
def sp_about (a w : Int) (s : St) : Int32 := if isReg a ∧ 0 ≤ w ∧ w ≤ 3 then (match rdN (s.2.1 a.toNat) with
  | none => iI 0
  | some t => if w = 0 then iI 1 else if w = 1 then iI (nd t.2.1 : Int) else if w = 2 then iI (fp t.2.1 t.2.2) else if t.1 < 0 then iI 1 else iI 0) else iI (-1)
theorem C_about {a w : Int} {s : St} {h : Hp} (ha : bI a) (hw : bI w) (H : SC h s) (ok : okS s) : ∃ h', f_D_about (iI a) (iI w) h = some (sp_about a w s, h') ∧ SC h' s ∧ lo h h' := by
  unfold f_D_about sp_about
  rw [bd_t (C_find ha)]
  by_cases q3 : ¬ isReg a
  · rw [oq_n q3, if_neg (by omega)]; exact ⟨h, rfl, H, lo_r _⟩
  have q3 := Decidable.not_not.mp q3
  rw [oq_y q3]
  by_cases q1 : w < 0
  · rw [if_pos (by rw [i0, iI_lt ⟨by omega, by omega⟩ ⟨by omega, by omega⟩]; exact q1), if_neg (by omega)]; exact ⟨h, rfl, H, lo_r _⟩
  rw [if_neg (by rw [i0, iI_lt ⟨by omega, by omega⟩ ⟨by omega, by omega⟩]; exact q1)]
  by_cases q2 : ¬ w ≤ 3
  · rw [if_neg (by rw [show (3 : Int32) = iI 3 from rfl, iI_le ⟨by omega, by omega⟩ ⟨by omega, by omega⟩]; exact q2), if_neg (by omega)]; exact ⟨h, rfl, H, lo_r _⟩
  have q2 := Decidable.not_not.mp q2
  rw [if_pos (by rw [show (3 : Int32) = iI 3 from rfl, iI_le ⟨by omega, by omega⟩ ⟨by omega, by omega⟩]; exact q2), if_pos (show isReg a ∧ 0 ≤ w ∧ w ≤ 3 by omega)]
  obtain ⟨h1, e1, k1, n1⟩ := C_read (i := 4 + 2 * a.toNat) (j := 29) (by omega) (by omega) (ok.2.1 a.toNat (by omega)).1 rfl (H.2.1 a.toNat (by omega))
  rw [bd_t e1]
  have f1 : fr h h1 := fr_kr (by omega) (by omega) k1
  cases hx : rdN (s.2.1 a.toNat) with
  | none =>
    rw [if_pos (by simp; decide)]
    exact ⟨h1, rfl, SC_fr H f1, lo_fr f1⟩
  | some t =>
    rw [if_neg (by simp; decide)]
    have N := n1 t hx
    have okt := rdN_ok (ok.2.1 a.toNat (by omega)).1 hx
    have hs := okt.1
    rw [N.1.1, N.2.2]
    refine ⟨h1, ?_, SC_fr H f1, lo_fr f1⟩
    show _ = some (if w = 0 then iI 1 else if w = 1 then iI (nd t.2.1 : Int) else if w = 2 then iI (fp t.2.1 t.2.2) else if t.1 < 0 then iI 1 else iI 0, h1)
    by_cases w1 : w = 1
    · rw [if_pos (by rw [w1]; rfl), if_neg (by omega), if_pos w1]
    rw [if_neg (by rw [i1, iI_eq ⟨by omega, by omega⟩ ⟨by omega, by omega⟩]; exact w1), if_neg w1]
    by_cases w2 : w = 2
    · rw [if_pos (by rw [w2]; rfl), if_neg (by omega), if_pos w2, bd_t (N_firstPower N)]
      rfl
    rw [if_neg (by rw [show (2 : Int32) = iI 2 from rfl, iI_eq ⟨by omega, by omega⟩ ⟨by omega, by omega⟩]; exact w2), if_neg w2]
    by_cases w0 : w = 0
    · rw [if_pos (by rw [w0]; rfl), if_pos w0]
      rfl
    rw [if_neg (by rw [i0, iI_eq ⟨by omega, by omega⟩ ⟨by omega, by omega⟩]; exact w0), if_neg w0]
    by_cases n0 : t.1 < 0
    · rw [if_neg (by rw [i0, iI_le ⟨by omega, by omega⟩ ⟨by unfold isS at hs; omega, by unfold isS at hs; omega⟩]; omega), if_pos n0]; rfl
    · rw [if_pos (by rw [i0, iI_le ⟨by omega, by omega⟩ ⟨by unfold isS at hs; omega, by unfold isS at hs; omega⟩]; omega), if_neg n0]; rfl
theorem M_about {a w : Int} {s : St} {h : Hp} (ha : bI a) (hw : bI w) (H : SR h s) (ok : okS s) : ∃ h', f_M_about (iI a) (iI w) h = some (sp_about a w s, h') ∧ SR h' s ∧ hi h h' := by
  unfold f_M_about sp_about
  rw [bd_t (M_isReg ha)]
  by_cases q3 : ¬ isReg a
  · rw [if_neg q3, if_pos (by rfl), if_neg (by omega)]; exact ⟨h, rfl, H, hi_r _⟩
  have q3 := Decidable.not_not.mp q3
  rw [if_pos q3, if_neg (by decide)]
  by_cases q1 : w < 0
  · rw [if_pos (by rw [i0, iI_lt ⟨by omega, by omega⟩ ⟨by omega, by omega⟩]; exact q1), if_neg (by omega)]; exact ⟨h, rfl, H, hi_r _⟩
  rw [if_neg (by rw [i0, iI_lt ⟨by omega, by omega⟩ ⟨by omega, by omega⟩]; exact q1)]
  by_cases q2 : ¬ w ≤ 3
  · rw [if_neg (by rw [show (3 : Int32) = iI 3 from rfl, iI_le ⟨by omega, by omega⟩ ⟨by omega, by omega⟩]; exact q2), if_neg (by omega)]; exact ⟨h, rfl, H, hi_r _⟩
  have q2 := Decidable.not_not.mp q2
  rw [if_pos (by rw [show (3 : Int32) = iI 3 from rfl, iI_le ⟨by omega, by omega⟩ ⟨by omega, by omega⟩]; exact q2), if_pos (show isReg a ∧ 0 ≤ w ∧ w ≤ 3 by omega)]
  obtain ⟨a, rfl⟩ : ∃ k : Nat, a = k := ⟨a.toNat, by omega⟩
  rw [Int.toNat_natCast]
  obtain ⟨h1, e1, k1, m1⟩ := M_read (z := 0) (r := a) (by omega) (by omega) (H.2.1 a (by omega)) (ok.2.1 a (by omega))
  rw [bd_t (show f_M_read (iI (a : Int)) 0 h = _ from e1)]
  have c5 : inR 0 5 := inz (z := 0) (by omega)
  have cl0 : Int32.toNatClampNeg 0 = 0 := rfl
  refine ⟨h1, ?_, SR_fw H (fw_km k1), hi_fw (fw_km k1)⟩
  cases hx : rdN (s.2.1 a) with
  | none =>
    simp only [if_pos (show iI (if (none : Option (Int × Nat × Int)) = none then 0 else 1) = 0 by simp; decide)]
    show _ = some (iI 0, h1)
    split <;> rfl
  | some t =>
    simp only [if_neg (show ¬ iI (if (some t : Option (Int × Nat × Int)) = none then 0 else 1) = 0 by simp; decide)]
    show _ = some (if w = 0 then iI 1 else if w = 1 then iI (nd t.2.1 : Int) else if w = 2 then iI (fp t.2.1 t.2.2) else if t.1 < 0 then iI 1 else iI 0, h1)
    have M := m1 t hx
    have okt := rdN_ok (ok.2.1 a (by omega)).1 hx
    have hs := okt.1
    by_cases w0 : w = 0
    · rw [if_pos (by rw [w0]; rfl), if_pos w0]
      rfl
    rw [if_neg (by rw [i0, iI_eq ⟨by omega, by omega⟩ ⟨by omega, by omega⟩]; exact w0), if_neg w0, chk_t c5, chk_t c5, chk_t c5]
    simp only [cl0, M.1, M.2.2.1]
    by_cases s0 : t.1 = 0
    · have c0 := okt.2.1.mp s0
      have e0 := okt.2.2.1 c0
      rw [if_pos (by rw [s0]; rfl), c0, e0, s0]
      by_cases w1 : w = 1
      · rw [if_pos w1]; rfl
      rw [if_neg w1]
      by_cases w2 : w = 2
      · rw [if_pos w2]; rfl
      rw [if_neg w2]; rfl
    have hc : 0 < t.2.1 := by
      rcases Nat.eq_zero_or_pos t.2.1 with y | y
      · exact absurd (okt.2.1.mpr y) s0
      · exact y
    rw [if_neg (by rw [i0, iI_eq ⟨by unfold isS at hs; omega, by unfold isS at hs; omega⟩ ⟨by omega, by omega⟩]; exact s0), mn_c hc]
    by_cases w1 : w = 1
    · rw [if_pos (by rw [w1]; rfl), if_pos w1]
    rw [if_neg (by rw [i1, iI_eq ⟨by omega, by omega⟩ ⟨by omega, by omega⟩]; exact w1), if_neg w1]
    by_cases w2 : w = 2
    · rw [if_pos (by rw [w2]; rfl), if_pos w2, bd_t (show f_M_high 0 h1 = _ from M_high (z := 0) (by omega) M), mn_c hc]
      unfold fp
      rw [if_neg (by omega)]
      congr 3
      omega
    rw [if_neg (by rw [show (2 : Int32) = iI 2 from rfl, iI_eq ⟨by omega, by omega⟩ ⟨by omega, by omega⟩]; exact w2), if_neg w2]
    by_cases n0 : t.1 < 0
    · rw [if_neg (by rw [i0, iI_le ⟨by omega, by omega⟩ ⟨by unfold isS at hs; omega, by unfold isS at hs; omega⟩]; omega), if_pos n0]; rfl
    · rw [if_pos (by rw [i0, iI_le ⟨by omega, by omega⟩ ⟨by unfold isS at hs; omega, by unfold isS at hs; omega⟩]; omega), if_neg n0]; rfl
-- ===== orders of texts =====
def ord (f g : Nat → Int) : Nat → Nat → Int
  | 0, _ => 0
  | m + 1, k => if f k = g k then ord f g m (k + 1) else f k - g k
def tld (v : Int) : Int := if v < 0 then 1 else if v = 0 then 2 else 4
theorem ord_b (f g : Nat → Int) (hf : ∀ k, -1 ≤ f k ∧ f k ≤ 255) (hg : ∀ k, -1 ≤ g k ∧ g k ≤ 255) : ∀ m k, -300 ≤ ord f g m k ∧ ord f g m k ≤ 300 := by
  intro m
  induction m with
  | zero => intro k; rw [ord]; omega
  | succ m ih =>
    intro k
    rw [ord]
    split
    · exact ih (k + 1)
    · have := hf k; have := hg k; omega
theorem ord_ext (f g : Nat → Int) (L' : Nat) (he : ∀ k, L' ≤ k → f k = g k) : ∀ m k, L' ≤ k + m → ord f g m k = ord f g (L' - k) k := by
  intro m
  induction m with
  | zero => intro k hk; rw [show L' - k = 0 by omega]
  | succ m ih =>
    intro k hk
    rw [ord]
    rcases Nat.lt_or_ge k L' with q | q
    · obtain ⟨y, hy⟩ : ∃ y, L' - k = y + 1 := ⟨L' - k - 1, by omega⟩
      rw [hy, ord, ih (k + 1) (by omega), show L' - (k + 1) = y by omega]
    · rw [if_pos (he k q), ih (k + 1) (by omega), show L' - (k + 1) = 0 by omega, show L' - k = 0 by omega, ord, ord]
theorem C_told {v : Int} {h : Hp} (hv : bI v) : f_D_standing (iI v) h = some (iI (tld v), h) := by
  unfold f_D_standing tld
  by_cases q : v < 0
  · rw [if_neg (by rw [i0, iI_le ⟨by omega, by omega⟩ ⟨by omega, by omega⟩]; omega), if_pos q]; rfl
  · rw [if_pos (by rw [i0, iI_le ⟨by omega, by omega⟩ ⟨by omega, by omega⟩]; omega), if_neg q]
    by_cases q2 : v = 0
    · rw [if_pos (by rw [i0, iI_le ⟨by omega, by omega⟩ ⟨by omega, by omega⟩]; omega), if_pos q2]; rfl
    · rw [if_neg (by rw [i0, iI_le ⟨by omega, by omega⟩ ⟨by omega, by omega⟩]; omega), if_neg q2]; rfl
theorem M_told {v : Int} {h : Hp} (hv : bI v) : f_M_told (iI v) h = some (iI (tld v), h) := by
  unfold f_M_told tld
  by_cases q : v < 0
  · rw [if_neg (by rw [i0, iI_le ⟨by omega, by omega⟩ ⟨by omega, by omega⟩]; omega), if_pos q]; rfl
  · rw [if_pos (by rw [i0, iI_le ⟨by omega, by omega⟩ ⟨by omega, by omega⟩]; omega), if_neg q]
    by_cases q2 : v = 0
    · rw [if_pos (by rw [q2]; rfl), if_pos q2]; rfl
    · rw [if_neg (by rw [i0, iI_eq ⟨by omega, by omega⟩ ⟨by omega, by omega⟩]; omega), if_neg q2]; rfl
theorem C_strict_loop {i j : Nat} {b1 b2 : List Nat} {h : Hp} (H1 : isL h i b1) (H2 : isL h j b2) (L : Nat) (hL : L ≤ 1000) : ∀ (m k n : Nat) (o : Int), k + m = L → m < n → -300 ≤ o ∧ o ≤ 300 → f_D_strictOrder_17 n i j (iI (L : Int)) (iI o) (iI (k : Int)) h = some (iI (if o = 0 then ord (fun k => bAt b1 (k : Int)) (fun k => bAt b2 (k : Int)) m k else o), h) := by
  intro m
  induction m with
  | zero =>
    intro k n o hk hn ho
    obtain ⟨n, rfl⟩ : ∃ q, n = q + 1 := ⟨n - 1, by omega⟩
    rw [f_D_strictOrder_17, if_pos (leN (by omega) (by omega) (by omega)), ord]
    split
    · rename_i y; rw [y]
    · rfl
  | succ m ih =>
    intro k n o hk hn ho
    obtain ⟨n, rfl⟩ : ∃ q, n = q + 1 := ⟨n - 1, by omega⟩
    rw [f_D_strictOrder_17, if_neg (nleN (by omega) (by omega) (by omega))]
    by_cases q : o = 0
    · have r1 := bAt_rg H1.2.2.1 (k : Int)
      have r2 := bAt_rg H2.2.2.1 (k : Int)
      rw [if_pos (by rw [q]; rfl), if_pos q, bd_t (L_byteAt H1 ⟨by omega, by omega⟩), bd_t (L_byteAt H2 ⟨by omega, by omega⟩), iI_sub, scN, ih (k + 1) n _ (by omega) (by omega) (by omega), ord]
      by_cases y : bAt b1 (k : Int) = bAt b2 (k : Int)
      · rw [if_pos (by omega), if_pos y]
      · rw [if_neg (by omega), if_neg y]
    · rw [if_neg (by rw [i0, iI_eq ⟨by omega, by omega⟩ ⟨by omega, by omega⟩]; exact q), if_neg q]
theorem mx_iI {a b : Nat} (ha : a ≤ 1000) (hb : b ≤ 1000) : (if iI (a : Int) < iI (b : Int) then iI (b : Int) else iI (a : Int)) = iI ((max a b : Nat) : Int) := by
  by_cases q : a < b
  · rw [if_pos (by rw [iI_lt ⟨by omega, by omega⟩ ⟨by omega, by omega⟩]; omega), Nat.max_eq_right (by omega)]
  · rw [if_neg (by rw [iI_lt ⟨by omega, by omega⟩ ⟨by omega, by omega⟩]; omega), Nat.max_eq_left (by omega)]
def oS (b1 b2 : List Nat) : Int := ord (fun k => bAt b1 (k : Int)) (fun k => bAt b2 (k : Int)) (max b1.length b2.length) 0
theorem C_strict {i j : Nat} {b1 b2 : List Nat} {h : Hp} (H1 : isL h i b1) (H2 : isL h j b2) : f_D_strictOrder i j h = some (iI (oS b1 b2), h) := by
  have l1 := H1.2.1
  have l2 := H2.2.1
  have m1 := bl_le (i + 1)
  have m2 := bl_le (j + 1)
  unfold f_D_strictOrder
  rw [H1.1, H2.1, mx_iI (by omega) (by omega)]
  have := C_strict_loop H1 H2 (max b1.length b2.length) (by omega) (max b1.length b2.length) 0 fuel 0 (by omega) (by unfold fuel; omega) (by omega)
  rw [if_pos rfl] at this
  exact this
theorem M_strict_loop {r1 r2 : Nat} {b1 b2 : List Nat} {h : Hp} (hr1 : r1 < 10) (hr2 : r2 < 10) (R1 : isR h r1 b1) (R2 : isR h r2 b2) (H1 : isE h r1 b1) (H2 : isE h r2 b2) : ∀ (m k n : Nat), k + m = min b1.length b2.length → m < n → ∃ v : Int, f_M_strictly_2 n (iI (r1 : Int)) (iI (r2 : Int)) (iI (k : Int)) h = some (iI v, h) ∧ -300 ≤ v ∧ v ≤ 300 ∧ tld v = tld (ord (fun k => bAt b1 (k : Int)) (fun k => bAt b2 (k : Int)) (max b1.length b2.length - k) k) := by
  have l1 := H1.1
  have l2 := H2.1
  have i1' : inR (iI (r1 : Int)) 10 := iI_inR (by omega) (by omega) (by omega)
  have i2' : inR (iI (r2 : Int)) 10 := iI_inR (by omega) (by omega) (by omega)
  have fin : f_M_strictly_81 (iI (r1 : Int)) (iI (r2 : Int)) h = some (iI ((b1.length : Int) - (b2.length : Int)), h) := by
    unfold f_M_strictly_81
    rw [chk_t i1', chk_t i2', clN (by omega), clN (by omega), R1.1, R2.1, iI_sub]
  intro m
  induction m with
  | zero =>
    intro k n hk hn
    obtain ⟨n, rfl⟩ : ∃ q, n = q + 1 := ⟨n - 1, by omega⟩
    refine ⟨(b1.length : Int) - (b2.length : Int), ?_, by omega, by omega, ?_⟩
    · rw [f_M_strictly_2, chk_t i1', fin]
      simp only [clN (show r1 < 2147483648 by omega), clN (show r2 < 2147483648 by omega), R1.1, R2.1]
      by_cases q : b1.length ≤ k
      · rw [if_pos (leN (by omega) (by omega) q)]
      · rw [if_neg (nleN (by omega) (by omega) (by omega)), chk_t i2', if_pos (leN (by omega) (by omega) (by omega))]
    · rcases Nat.lt_trichotomy b1.length b2.length with q | q | q
      · obtain ⟨y, hy⟩ : ∃ y, max b1.length b2.length - k = y + 1 := ⟨max b1.length b2.length - k - 1, by omega⟩
        have e1 : bAt b1 (k : Int) = -1 := bAt_out (by omega)
        have e2 : bAt b2 (k : Int) = (b2.getD k 0 : Int) := bAt_in (by omega)
        rw [hy, ord, if_neg (by omega)]
        unfold tld
        rw [if_pos (by omega), if_pos (by omega)]
      · rw [show max b1.length b2.length - k = 0 by omega, ord]
        unfold tld
        rw [if_neg (by omega), if_pos (by omega), if_neg (by omega), if_pos rfl]
      · obtain ⟨y, hy⟩ : ∃ y, max b1.length b2.length - k = y + 1 := ⟨max b1.length b2.length - k - 1, by omega⟩
        have e1 : bAt b2 (k : Int) = -1 := bAt_out (by omega)
        have e2 : bAt b1 (k : Int) = (b1.getD k 0 : Int) := bAt_in (by omega)
        rw [hy, ord, if_neg (by omega)]
        unfold tld
        rw [if_neg (by omega), if_neg (by omega), if_neg (by omega), if_neg (by omega)]
  | succ m ih =>
    intro k n hk hn
    obtain ⟨n, rfl⟩ : ∃ q, n = q + 1 := ⟨n - 1, by omega⟩
    have g1 := bAt_rg H1.2.1 (k : Int)
    have g2 := bAt_rg H2.2.1 (k : Int)
    have e1 : (200 : Int32) * iI (r1 : Int) + iI (k : Int) = iI ((200 * r1 + k : Nat) : Int) := by rw [show (200 : Int32) = iI 200 from rfl, iI_mul, iI_add]; congr 1
    have e2 : (200 : Int32) * iI (r2 : Int) + iI (k : Int) = iI ((200 * r2 + k : Nat) : Int) := by rw [show (200 : Int32) = iI 200 from rfl, iI_mul, iI_add]; congr 1
    obtain ⟨y, hy⟩ : ∃ y, max b1.length b2.length - k = y + 1 := ⟨max b1.length b2.length - k - 1, by omega⟩
    rw [f_M_strictly_2, chk_t i1', chk_t i2', e1, e2, chk_t (inB hr1 (by omega)), chk_t (inB hr2 (by omega)), chk_t (inB hr1 (by omega)), chk_t (inB hr2 (by omega))]
    simp only [clN (show r1 < 2147483648 by omega), clN (show r2 < 2147483648 by omega), R1.1, R2.1, clB hr1 (show k < 2000 by omega), clB hr2 (show k < 2000 by omega), H1.2.2 k (by omega), H2.2.2 k (by omega)]
    rw [if_neg (nleN (by omega) (by omega) (by omega)), if_neg (nleN (by omega) (by omega) (by omega)), hy, ord, scN, iI_sub]
    by_cases q : bAt b1 (k : Int) = bAt b2 (k : Int)
    · rw [if_pos (by rw [q]), if_pos q, show y = max b1.length b2.length - (k + 1) by omega]
      exact ih (k + 1) n (by omega) (by omega)
    · rw [if_neg (by rw [iI_eq ⟨by omega, by omega⟩ ⟨by omega, by omega⟩]; exact q), if_neg q]
      exact ⟨_, rfl, by omega, by omega, rfl⟩
theorem M_strict {r1 r2 : Nat} {b1 b2 : List Nat} {h : Hp} (hr1 : r1 < 10) (hr2 : r2 < 10) (R1 : isR h r1 b1) (R2 : isR h r2 b2) (o1 : okB b1 200) (o2 : okB b2 200) : ∃ v : Int, f_M_strictly (iI (r1 : Int)) (iI (r2 : Int)) h = some (iI v, h) ∧ -300 ≤ v ∧ v ≤ 300 ∧ tld v = tld (oS b1 b2) := by
  have h1 := o1.1
  have := M_strict_loop hr1 hr2 R1 R2 (isE_of R1 o1) (isE_of R2 o2) (min b1.length b2.length) 0 fuel (by omega) (by unfold fuel; omega)
  rw [Nat.sub_zero] at this
  exact this
def bOr (bs : List Nat) (k : Nat) : Int := if bAt bs (k : Int) = -1 then 32 else bAt bs (k : Int)
theorem bOr_rg {bs : List Nat} (H : ∀ k, k < bs.length → bs.getD k 0 < 256) (k : Nat) : -1 ≤ bOr bs k ∧ bOr bs k ≤ 255 := by
  have := bAt_rg H (k : Int)
  unfold bOr
  split <;> omega
theorem C_bOr {i k : Nat} {bs : List Nat} {h : Hp} (hk : k ≤ 10000) (H : isL h i bs) : f_L_byteOrBlank i (iI (k : Int)) h = some (iI (bOr bs k), h) := by
  have r := bAt_rg H.2.2.1 (k : Int)
  unfold f_L_byteOrBlank bOr
  rw [bd_t (L_byteAt H ⟨by omega, by omega⟩)]
  by_cases q : bAt bs (k : Int) = -1
  · rw [if_pos (by rw [q]; rfl), if_pos q]; rfl
  · rw [if_neg (by rw [im1, iI_eq ⟨by omega, by omega⟩ ⟨by omega, by omega⟩]; exact q), if_neg q]
theorem C_ink_loop {i : Nat} {bs : List Nat} {h : Hp} (H : isL h i bs) : ∀ (m k n : Nat), k + m = bs.length → m < n → f_L_firstInk_2 n i (iI (k : Int)) h = some (iI (skp bs m k : Int), h) := by
  have hl := H.2.1
  have hbl := bl_le (i + 1)
  intro m
  induction m with
  | zero =>
    intro k n hk hn
    obtain ⟨n, rfl⟩ : ∃ q, n = q + 1 := ⟨n - 1, by omega⟩
    rw [f_L_firstInk_2, H.1, if_pos (leN (by omega) (by omega) (by omega)), skp]
  | succ m ih =>
    intro k n hk hn
    obtain ⟨n, rfl⟩ : ∃ q, n = q + 1 := ⟨n - 1, by omega⟩
    have hr := bAt_rg H.2.2.1 (k : Int)
    rw [f_L_firstInk_2, H.1, if_neg (nleN (by omega) (by omega) (by omega)), bd_t (L_byteAt H ⟨by omega, by omega⟩), skp]
    by_cases q : bAt bs (k : Int) = 32
    · rw [if_pos (by rw [q]; rfl), if_pos q, scN]
      exact ih (k + 1) n (by omega) (by omega)
    · rw [if_neg (by rw [show (32 : Int32) = iI 32 from rfl, iI_eq ⟨by omega, by omega⟩ ⟨by omega, by omega⟩]; exact q), if_neg q]
theorem C_ink {i : Nat} {bs : List Nat} {h : Hp} (H : isL h i bs) : f_L_firstInk i h = some (iI (rdK bs : Int), h) := by
  have hl := H.2.1
  have hbl := bl_le (i + 1)
  exact C_ink_loop H bs.length 0 fuel (by omega) (by unfold fuel; omega)
theorem C_loose_loop {i j k1 k2 : Nat} {b1 b2 : List Nat} {h : Hp} (H1 : isL h i b1) (H2 : isL h j b2) (hk1 : k1 ≤ 1000) (hk2 : k2 ≤ 1000) (L : Nat) (hL : L ≤ 1000) : ∀ (m k n : Nat) (o : Int), k + m = L → m < n → -300 ≤ o ∧ o ≤ 300 → f_D_looseOrder_33 n i j (iI (k1 : Int)) (iI (k2 : Int)) (iI (L : Int)) (iI o) (iI (k : Int)) h = some (iI (if o = 0 then ord (fun k => bOr b1 (k1 + k)) (fun k => bOr b2 (k2 + k)) m k else o), h) := by
  intro m
  induction m with
  | zero =>
    intro k n o hk hn ho
    obtain ⟨n, rfl⟩ : ∃ q, n = q + 1 := ⟨n - 1, by omega⟩
    rw [f_D_looseOrder_33, if_pos (leN (by omega) (by omega) (by omega)), ord]
    split
    · rename_i y; rw [y]
    · rfl
  | succ m ih =>
    intro k n o hk hn ho
    obtain ⟨n, rfl⟩ : ∃ q, n = q + 1 := ⟨n - 1, by omega⟩
    rw [f_D_looseOrder_33, if_neg (nleN (by omega) (by omega) (by omega))]
    by_cases q : o = 0
    · have r1 := bOr_rg H1.2.2.1 (k1 + k)
      have r2 := bOr_rg H2.2.2.1 (k2 + k)
      have e1 : iI (k1 : Int) + iI (k : Int) = iI ((k1 + k : Nat) : Int) := by rw [iI_add]; rfl
      have e2 : iI (k2 : Int) + iI (k : Int) = iI ((k2 + k : Nat) : Int) := by rw [iI_add]; rfl
      rw [if_pos (by rw [q]; rfl), if_pos q, e1, e2, bd_t (C_bOr (by omega) H1), bd_t (C_bOr (by omega) H2), iI_sub, scN, ih (k + 1) n _ (by omega) (by omega) (by omega), ord]
      by_cases y : bOr b1 (k1 + k) = bOr b2 (k2 + k)
      · rw [if_pos (by omega), if_pos y]
      · rw [if_neg (by omega), if_neg y]
    · rw [if_neg (by rw [i0, iI_eq ⟨by omega, by omega⟩ ⟨by omega, by omega⟩]; exact q), if_neg q]
def oL (b1 b2 : List Nat) : Int := ord (fun k => bOr b1 (rdK b1 + k)) (fun k => bOr b2 (rdK b2 + k)) (max (b1.length - rdK b1) (b2.length - rdK b2)) 0
theorem C_loose {i j : Nat} {b1 b2 : List Nat} {h : Hp} (H1 : isL h i b1) (H2 : isL h j b2) : f_D_looseOrder i j h = some (iI (oL b1 b2), h) := by
  have l1 := H1.2.1
  have l2 := H2.2.1
  have m1 := bl_le (i + 1)
  have m2 := bl_le (j + 1)
  have k1 := rdK_le b1
  have k2 := rdK_le b2
  unfold f_D_looseOrder
  rw [bd_t (C_ink H1), bd_t (C_ink H2), H1.1, H2.1, iI_sub, iI_sub, show (b1.length : Int) - (rdK b1 : Int) = ((b1.length - rdK b1 : Nat) : Int) by omega, show (b2.length : Int) - (rdK b2 : Int) = ((b2.length - rdK b2 : Nat) : Int) by omega, mx_iI (by omega) (by omega)]
  have := C_loose_loop (k1 := rdK b1) (k2 := rdK b2) H1 H2 (by omega) (by omega) (max (b1.length - rdK b1) (b2.length - rdK b2)) (by omega) (max (b1.length - rdK b1) (b2.length - rdK b2)) 0 fuel 0 (by omega) (by unfold fuel; omega) (by omega)
  rw [if_pos rfl] at this
  exact this
theorem M_l34 {r : Nat} {bs : List Nat} {h : Hp} {v4 v6 : Int32} (hr : r < 10) (H : isE h r bs) : ∀ (m k n : Nat), k + m = bs.length → m < n → f_M_loosely_34 n (iI ((200 * r + k : Nat) : Int)) v4 (iI ((200 * r + bs.length : Nat) : Int)) v6 h = f_M_loosely_57 fuel (iI ((200 * r + skp bs m k : Nat) : Int)) v4 (iI ((200 * r + bs.length : Nat) : Int)) v6 h := by
  have hl := H.1
  intro m
  induction m with
  | zero =>
    intro k n hk hn
    obtain ⟨n, rfl⟩ : ∃ q, n = q + 1 := ⟨n - 1, by omega⟩
    rw [f_M_loosely_34, if_pos (leN (by omega) (by omega) (by omega)), skp]
  | succ m ih =>
    intro k n hk hn
    obtain ⟨n, rfl⟩ : ∃ q, n = q + 1 := ⟨n - 1, by omega⟩
    have hrg := bAt_rg H.2.1 (k : Int)
    rw [f_M_loosely_34, if_neg (nleN (by omega) (by omega) (by omega)), chk_t (inB hr (by omega)), skp]
    simp only [clB hr (show k < 2000 by omega), H.2.2 k (by omega)]
    by_cases q : bAt bs (k : Int) = 32
    · rw [if_pos (by rw [q]; rfl), if_pos q, scN]
      exact ih (k + 1) n (by omega) (by omega)
    · rw [if_neg (by rw [show (32 : Int32) = iI 32 from rfl, iI_eq ⟨by omega, by omega⟩ ⟨by omega, by omega⟩]; exact q), if_neg q]
theorem M_l57 {r : Nat} {bs : List Nat} {h : Hp} {v3 v5 : Int32} (hr : r < 10) (H : isE h r bs) : ∀ (m k n : Nat), k + m = bs.length → m < n → f_M_loosely_57 n v3 (iI ((200 * r + k : Nat) : Int)) v5 (iI ((200 * r + bs.length : Nat) : Int)) h = f_M_loosely_82 fuel v3 (iI ((200 * r + skp bs m k : Nat) : Int)) v5 (iI ((200 * r + bs.length : Nat) : Int)) h := by
  have hl := H.1
  intro m
  induction m with
  | zero =>
    intro k n hk hn
    obtain ⟨n, rfl⟩ : ∃ q, n = q + 1 := ⟨n - 1, by omega⟩
    rw [f_M_loosely_57, if_pos (leN (by omega) (by omega) (by omega)), skp]
  | succ m ih =>
    intro k n hk hn
    obtain ⟨n, rfl⟩ : ∃ q, n = q + 1 := ⟨n - 1, by omega⟩
    have hrg := bAt_rg H.2.1 (k : Int)
    rw [f_M_loosely_57, if_neg (nleN (by omega) (by omega) (by omega)), chk_t (inB hr (by omega)), skp]
    simp only [clB hr (show k < 2000 by omega), H.2.2 k (by omega)]
    by_cases q : bAt bs (k : Int) = 32
    · rw [if_pos (by rw [q]; rfl), if_pos q, scN]
      exact ih (k + 1) n (by omega) (by omega)
    · rw [if_neg (by rw [show (32 : Int32) = iI 32 from rfl, iI_eq ⟨by omega, by omega⟩ ⟨by omega, by omega⟩]; exact q), if_neg q]
theorem M_l82 {r k : Nat} {bs : List Nat} {h : Hp} {v4 v6 : Int32} (hr : r < 10) (H : isE h r bs) : ∀ (m n : Nat), k + m ≤ bs.length → m < n → f_M_loosely_82 n (iI ((200 * r + k : Nat) : Int)) v4 (iI ((200 * r + (k + m) : Nat) : Int)) v6 h = f_M_loosely_108 fuel (iI ((200 * r + k : Nat) : Int)) v4 (iI ((200 * r + trm bs k m : Nat) : Int)) v6 h := by
  have hl := H.1
  intro m
  induction m with
  | zero =>
    intro n hk hn
    obtain ⟨n, rfl⟩ : ∃ q, n = q + 1 := ⟨n - 1, by omega⟩
    rw [f_M_loosely_82, if_pos (leN (by omega) (by omega) (by omega)), trm]
    rfl
  | succ m ih =>
    intro n hk hn
    obtain ⟨n, rfl⟩ : ∃ q, n = q + 1 := ⟨n - 1, by omega⟩
    have hrg := bAt_rg H.2.1 ((k + m : Nat) : Int)
    have em : iI ((200 * r + (k + (m + 1)) : Nat) : Int) - 1 = iI ((200 * r + (k + m) : Nat) : Int) := by rw [i1, iI_sub]; congr 1; omega
    have em2 : iI ((200 * r + (k + (m + 1)) : Nat) : Int) + (-1) = iI ((200 * r + (k + m) : Nat) : Int) := by rw [im1, iI_add]; congr 1; omega
    rw [f_M_loosely_82, if_neg (nleN (by omega) (by omega) (by omega)), em, chk_t (inB hr (by omega)), trm, em2]
    simp only [clB hr (show k + m < 2000 by omega), H.2.2 (k + m) (by omega)]
    by_cases q : bAt bs ((k + m : Nat) : Int) = 32
    · rw [if_pos (by rw [q]; rfl), if_pos q]
      exact ih n (by omega) (by omega)
    · rw [if_neg (by rw [show (32 : Int32) = iI 32 from rfl, iI_eq ⟨by omega, by omega⟩ ⟨by omega, by omega⟩]; exact q), if_neg q]
      rfl
theorem M_l108 {r k : Nat} {bs : List Nat} {h : Hp} {v3 v5 : Int32} (hr : r < 10) (H : isE h r bs) : ∀ (m n : Nat), k + m ≤ bs.length → m < n → f_M_loosely_108 n v3 (iI ((200 * r + k : Nat) : Int)) v5 (iI ((200 * r + (k + m) : Nat) : Int)) h = f_M_loosely_135 fuel v3 (iI ((200 * r + k : Nat) : Int)) v5 (iI ((200 * r + trm bs k m : Nat) : Int)) h := by
  have hl := H.1
  intro m
  induction m with
  | zero =>
    intro n hk hn
    obtain ⟨n, rfl⟩ : ∃ q, n = q + 1 := ⟨n - 1, by omega⟩
    rw [f_M_loosely_108, if_pos (leN (by omega) (by omega) (by omega)), trm]
    rfl
  | succ m ih =>
    intro n hk hn
    obtain ⟨n, rfl⟩ : ∃ q, n = q + 1 := ⟨n - 1, by omega⟩
    have hrg := bAt_rg H.2.1 ((k + m : Nat) : Int)
    have em : iI ((200 * r + (k + (m + 1)) : Nat) : Int) - 1 = iI ((200 * r + (k + m) : Nat) : Int) := by rw [i1, iI_sub]; congr 1; omega
    have em2 : iI ((200 * r + (k + (m + 1)) : Nat) : Int) + (-1) = iI ((200 * r + (k + m) : Nat) : Int) := by rw [im1, iI_add]; congr 1; omega
    rw [f_M_loosely_108, if_neg (nleN (by omega) (by omega) (by omega)), em, chk_t (inB hr (by omega)), trm, em2]
    simp only [clB hr (show k + m < 2000 by omega), H.2.2 (k + m) (by omega)]
    by_cases q : bAt bs ((k + m : Nat) : Int) = 32
    · rw [if_pos (by rw [q]; rfl), if_pos q]
      exact ih n (by omega) (by omega)
    · rw [if_neg (by rw [show (32 : Int32) = iI 32 from rfl, iI_eq ⟨by omega, by omega⟩ ⟨by omega, by omega⟩]; exact q), if_neg q]
      rfl
theorem M_l135 {r1 r2 k1 k2 E1 E2 : Nat} {b1 b2 : List Nat} {h : Hp} (hr1 : r1 < 10) (hr2 : r2 < 10) (H1 : isE h r1 b1) (H2 : isE h r2 b2) (hE1 : E1 ≤ b1.length) (hE2 : E2 ≤ b2.length) (hk1 : k1 ≤ E1) (hk2 : k2 ≤ E2) (t1 : ∀ j, E1 ≤ j → bOr b1 j = 32) (t2 : ∀ j, E2 ≤ j → bOr b2 j = 32) : ∀ (m k n : Nat), k + m = max (E1 - k1) (E2 - k2) → m < n → f_M_loosely_135 n (iI ((200 * r1 + (k1 + k) : Nat) : Int)) (iI ((200 * r2 + (k2 + k) : Nat) : Int)) (iI ((200 * r1 + E1 : Nat) : Int)) (iI ((200 * r2 + E2 : Nat) : Int)) h = some (iI (ord (fun k => bOr b1 (k1 + k)) (fun k => bOr b2 (k2 + k)) m k), h) := by
  have l1 := H1.1
  have l2 := H2.1
  intro m
  induction m with
  | zero =>
    intro k n hk hn
    obtain ⟨n, rfl⟩ : ∃ q, n = q + 1 := ⟨n - 1, by omega⟩
    rw [f_M_loosely_135, if_neg (by rw [iI_lt ⟨by omega, by omega⟩ ⟨by omega, by omega⟩]; omega), if_pos (leN (by omega) (by omega) (by omega)), ord]
    rfl
  | succ m ih =>
    intro k n hk hn
    obtain ⟨n, rfl⟩ : ∃ q, n = q + 1 := ⟨n - 1, by omega⟩
    have step : f_M_loosely_148 (fun v3 v4 v5 v6 h => f_M_loosely_135 n v3 v4 v5 v6 h) (iI ((200 * r1 + (k1 + k) : Nat) : Int)) (iI ((200 * r2 + (k2 + k) : Nat) : Int)) (iI ((200 * r1 + E1 : Nat) : Int)) (iI ((200 * r2 + E2 : Nat) : Int)) h = some (iI (ord (fun k => bOr b1 (k1 + k)) (fun k => bOr b2 (k2 + k)) (m + 1) k), h) := by
      have r1' := bOr_rg H1.2.1 (k1 + k)
      have r2' := bOr_rg H2.2.1 (k2 + k)
      have e186 : f_M_loosely_186 (fun v3 v4 v5 v6 h => f_M_loosely_135 n v3 v4 v5 v6 h) (iI ((200 * r1 + (k1 + k) : Nat) : Int)) (iI ((200 * r2 + (k2 + k) : Nat) : Int)) (iI ((200 * r1 + E1 : Nat) : Int)) (iI ((200 * r2 + E2 : Nat) : Int)) (iI (bOr b1 (k1 + k))) (iI (bOr b2 (k2 + k))) h = some (iI (ord (fun k => bOr b1 (k1 + k)) (fun k => bOr b2 (k2 + k)) (m + 1) k), h) := by
        unfold f_M_loosely_186
        rw [ord, scN, scN, iI_sub]
        by_cases y : bOr b1 (k1 + k) = bOr b2 (k2 + k)
        · rw [if_pos (by rw [y]), if_pos y]
          exact ih (k + 1) n (by omega) (by omega)
        · rw [if_neg (by rw [iI_eq ⟨by omega, by omega⟩ ⟨by omega, by omega⟩]; exact y), if_neg y]
      have e165 : f_M_loosely_165 (fun v3 v4 v5 v6 h => f_M_loosely_135 n v3 v4 v5 v6 h) (iI ((200 * r1 + (k1 + k) : Nat) : Int)) (iI ((200 * r2 + (k2 + k) : Nat) : Int)) (iI ((200 * r1 + E1 : Nat) : Int)) (iI ((200 * r2 + E2 : Nat) : Int)) (iI (bOr b1 (k1 + k))) h = some (iI (ord (fun k => bOr b1 (k1 + k)) (fun k => bOr b2 (k2 + k)) (m + 1) k), h) := by
        unfold f_M_loosely_165
        by_cases y : E2 ≤ k2 + k
        · rw [if_pos (leN (by omega) (by omega) (by omega)), ← e186, t2 _ y]; rfl
        · have : bOr b2 (k2 + k) = bAt b2 ((k2 + k : Nat) : Int) := by unfold bOr; rw [if_neg (by rw [bAt_in (by omega)]; omega)]
          rw [if_neg (nleN (by omega) (by omega) (by omega)), chk_t (inB hr2 (by omega)), clB hr2 (by omega), H2.2.2 _ (by omega), ← this, e186]
      unfold f_M_loosely_148
      by_cases y : E1 ≤ k1 + k
      · rw [if_pos (leN (by omega) (by omega) (by omega)), ← e165, t1 _ y]; rfl
      · have : bOr b1 (k1 + k) = bAt b1 ((k1 + k : Nat) : Int) := by unfold bOr; rw [if_neg (by rw [bAt_in (by omega)]; omega)]
        rw [if_neg (nleN (by omega) (by omega) (by omega)), chk_t (inB hr1 (by omega)), clB hr1 (by omega), H1.2.2 _ (by omega), ← this, e165]
    rw [f_M_loosely_135, step]
    by_cases q : k1 + k < E1
    · rw [if_pos (by rw [iI_lt ⟨by omega, by omega⟩ ⟨by omega, by omega⟩]; omega)]
    · rw [if_neg (by rw [iI_lt ⟨by omega, by omega⟩ ⟨by omega, by omega⟩]; omega), if_neg (nleN (by omega) (by omega) (by omega))]
theorem M_loose {r1 r2 : Nat} {b1 b2 : List Nat} {h : Hp} (hr1 : r1 < 10) (hr2 : r2 < 10) (R1 : isR h r1 b1) (R2 : isR h r2 b2) (o1 : okB b1 200) (o2 : okB b2 200) : f_M_loosely (iI (r1 : Int)) (iI (r2 : Int)) h = some (iI (oL b1 b2), h) := by
  have H1 := isE_of R1 o1
  have H2 := isE_of R2 o2
  have l1 := o1.1
  have l2 := o2.1
  have i1' : inR (iI (r1 : Int)) 10 := iI_inR (by omega) (by omega) (by omega)
  have i2' : inR (iI (r2 : Int)) 10 := iI_inR (by omega) (by omega) (by omega)
  have a1 : (200 : Int32) * iI (r1 : Int) = iI ((200 * r1 + 0 : Nat) : Int) := by rw [show (200 : Int32) = iI 200 from rfl, iI_mul]; rfl
  have a2 : (200 : Int32) * iI (r2 : Int) = iI ((200 * r2 + 0 : Nat) : Int) := by rw [show (200 : Int32) = iI 200 from rfl, iI_mul]; rfl
  have c1 : iI ((200 * r1 + 0 : Nat) : Int) + iI (b1.length : Int) = iI ((200 * r1 + b1.length : Nat) : Int) := by rw [iI_add]; congr 1
  have c2 : iI ((200 * r2 + 0 : Nat) : Int) + iI (b2.length : Int) = iI ((200 * r2 + b2.length : Nat) : Int) := by rw [iI_add]; congr 1
  have k1 := rdK_le b1
  have k2 := rdK_le b2
  have g1 := rdEnd_le b1
  have g2 := rdEnd_le b2
  unfold f_M_loosely
  rw [chk_t i1', chk_t i2', clN (by omega), clN (by omega), R1.1, R2.1, a1, a2, c1, c2, M_l34 hr1 H1 b1.length 0 fuel (by omega) (by unfold fuel; omega), M_l57 hr2 H2 b2.length 0 fuel (by omega) (by unfold fuel; omega)]
  have e82 := M_l82 (k := rdK b1) (v4 := iI ((200 * r2 + rdK b2 : Nat) : Int)) (v6 := iI ((200 * r2 + b2.length : Nat) : Int)) hr1 H1 (b1.length - rdK b1) fuel (by omega) (by unfold fuel; omega)
  rw [show rdK b1 + (b1.length - rdK b1) = b1.length by omega] at e82
  refine Eq.trans e82 ?_
  have e108 := M_l108 (k := rdK b2) (v3 := iI ((200 * r1 + rdK b1 : Nat) : Int)) (v5 := iI ((200 * r1 + rdEnd b1 : Nat) : Int)) hr2 H2 (b2.length - rdK b2) fuel (by omega) (by unfold fuel; omega)
  rw [show rdK b2 + (b2.length - rdK b2) = b2.length by omega] at e108
  refine Eq.trans e108 ?_
  have tt : ∀ b : List Nat, ∀ j, rdEnd b ≤ j → bOr b j = 32 := fun b j hj => by
    have hb := rdK_le b
    unfold bOr
    rcases Nat.lt_or_ge j b.length with y | y
    · have := (trm_p b (rdK b) (b.length - rdK b)).2.2.1 j hj (by omega)
      rw [this]
      rfl
    · rw [bAt_out y, if_pos rfl]
  have e135 := M_l135 (k1 := rdK b1) (k2 := rdK b2) hr1 hr2 H1 H2 g1.2 g2.2 g1.1 g2.1 (tt b1) (tt b2) (max (rdEnd b1 - rdK b1) (rdEnd b2 - rdK b2)) 0 fuel (by omega) (by unfold fuel; omega)
  refine Eq.trans e135 ?_
  congr 3
  unfold oL
  rw [ord_ext _ _ (max (rdEnd b1 - rdK b1) (rdEnd b2 - rdK b2)) (fun k hk => by show bOr b1 _ = bOr b2 _; rw [tt b1 _ (by omega), tt b2 _ (by omega)]) (max (b1.length - rdK b1) (b2.length - rdK b2)) 0 (by omega), Nat.sub_zero]
