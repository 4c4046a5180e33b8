/-! PURE 13: writing: the reference's writer; what is kept -/
def isW (h : Hp) (bs : List Nat) : Prop := h 46 13 = iI (bs.length : Int) ∧ ∀ k, k < bs.length → k < 1600 → h 55 k = iI (bs.getD k 0 : Int)
def kw (h h' : Hp) : Prop := (∀ j, j ≠ 46 → j ≠ 55 → h' j = h j) ∧ ∀ k, k ≠ 13 → h' 46 k = h 46 k
theorem kw_r (h : Hp) : kw h h := ⟨fun _ _ _ => rfl, fun _ _ => rfl⟩
theorem kw_t {h h1 h2 : Hp} (x : kw h h1) (y : kw h1 h2) : kw h h2 := ⟨fun j p q => (y.1 j p q).trans (x.1 j p q), fun k p => (y.2 k p).trans (x.2 k p)⟩
theorem isM_kw {h h' : Hp} {z c : Nat} {s e : Int} (H : isM h z s c e) (k : kw h h') : isM h' z s c e := by
  obtain ⟨h1, h2, h3, h4, h5⟩ := H
  exact ⟨by rw [k.1 51 (by omega) (by omega)]; exact h1, by rw [k.1 52 (by omega) (by omega)]; exact h2, by rw [k.1 53 (by omega) (by omega)]; exact h3, h4, fun q hq => by rw [k.1 50 (by omega) (by omega)]; exact h5 q hq⟩
theorem M_letter {h : Hp} {bs : List Nat} {b : Nat} (H : isW h bs) (hl : bs.length < 1000000) : ∃ h', f_M_letter (iI (b : Int)) h = some ((), h') ∧ isW h' (bs ++ [b]) ∧ kw h h' := by
  obtain ⟨h1, h2⟩ := H
  unfold f_M_letter
  rw [h1]
  by_cases q : 1600 ≤ bs.length
  · rw [if_pos (by rw [show (1600 : Int32) = iI 1600 from rfl, iI_le ⟨by omega, by omega⟩ ⟨by omega, by omega⟩]; omega), scN]
    refine ⟨_, rfl, ⟨by rw [up2_s, List.length_append]; rfl, fun k hk hk2 => ?_⟩, fun j a _ => up2_ne _ _ _ a, fun k a => up2_k _ _ _ a⟩
    rw [up2_o _ _ _ _ (by omega), gD_l (by omega)]
    exact h2 k (by omega) hk2
  · rw [if_neg (by rw [show (1600 : Int32) = iI 1600 from rfl, iI_le ⟨by omega, by omega⟩ ⟨by omega, by omega⟩]; omega), chk_t (iI_inR (by omega) (by omega) (by omega)), clN (by omega), up2_o _ _ _ _ (by omega : (46 : Nat) ≠ 55), h1, scN]
    refine ⟨_, rfl, ⟨by rw [up2_s, List.length_append]; rfl, fun k hk hk2 => ?_⟩, fun j a b => by rw [up2_ne _ _ _ a, up2_ne _ _ _ b], fun k a => by rw [up2_k _ _ _ a, up2_o _ _ _ _ (by omega)]⟩
    rw [up2_o _ _ _ _ (by omega)]
    rw [List.length_append] at hk
    simp at hk
    by_cases y : k < bs.length
    · rw [gD_l y, up2_k _ _ _ (by omega)]
      exact h2 k y hk2
    · rw [gD_r (by omega), show k = bs.length by omega, up2_s]
      simp
theorem isW_0 (h : Hp) : isW (up2 h 46 13 0) [] := ⟨by rw [up2_s]; rfl, fun k hk => absurd hk (Nat.not_lt_zero k)⟩
theorem kw_0 (h : Hp) (v : Int32) : kw h (up2 h 46 13 v) := ⟨fun j a _ => up2_ne _ _ _ a, fun k a => up2_k _ _ _ a⟩
def dP (c : Nat) (e : Int) : Nat → Nat → List Nat
  | 0, _ => []
  | m + 1, k => (if k = 1 then [46] else []) ++ (48 + dp c e (-(k : Int))) :: dP c e m (k + 1)
theorem dP_2 (c : Nat) (e : Int) : ∀ m k, 1 < k → dP c e m k = dB c e m k
  | 0, _, _ => rfl
  | m + 1, k, h => by rw [dP, dB, if_neg (by omega), dP_2 c e m (k + 1) (by omega)]; rfl
theorem dP_1 (c : Nat) (e : Int) (m : Nat) : dP c e m 1 = if m = 0 then [] else 46 :: dB c e m 1 := by
  cases m with
  | zero => rfl
  | succ m => rw [dP, if_pos rfl, if_neg (by omega), dB, dP_2 c e m _ (by omega)]; rfl
theorem dP_len (c : Nat) (e : Int) : ∀ m k, (dP c e m k).length ≤ 2 * m
  | 0, _ => Nat.le_refl _
  | m + 1, k => by
    have := dP_len c e m (k + 1)
    rw [dP, List.length_append, List.length_cons]
    split
    · simp; omega
    · simp; omega
/-- written, or too long -/
def wOut (h h' : Hp) (bs T : List Nat) : Prop := ∃ T', isW h' (bs ++ T') ∧ kw h h' ∧ T'.length ≤ T.length ∧ (T' = T ∨ 1600 ≤ (bs ++ T').length)
theorem wOut_nil {h : Hp} {bs T : List Nat} (H : isW h bs) (hh : 1600 ≤ bs.length) : wOut h h bs T := ⟨[], by rw [List.append_nil]; exact H, kw_r _, Nat.zero_le _, Or.inr (by rw [List.append_nil]; exact hh)⟩
theorem wOut_0 {h : Hp} {bs : List Nat} (H : isW h bs) : wOut h h bs [] := ⟨[], by rw [List.append_nil]; exact H, kw_r _, Nat.le_refl _, Or.inl rfl⟩
theorem wOut_t {h h1 h2 : Hp} {bs U T : List Nat} (k : kw h h1) (w : wOut h1 h2 (bs ++ U) T) : wOut h h2 bs (U ++ T) := by
  obtain ⟨T', a, b, c, d⟩ := w
  refine ⟨U ++ T', by rw [← List.append_assoc]; exact a, kw_t k b, by rw [List.length_append, List.length_append]; omega, ?_⟩
  rcases d with d | d
  · exact Or.inl (by rw [d])
  · exact Or.inr (by rw [← List.append_assoc]; exact d)
theorem M_pB {z c pl : Nat} {s e : Int} (hz : z < 5) (he : -100000000 ≤ e ∧ e ≤ 100000000) (hp : pl ≤ 100000) : ∀ (m k n : Nat) (h : Hp) (bs : List Nat), k + m = pl + 1 → 0 < k → m < n → isM h z s c e → isW h bs → bs.length + 2 * m < 1000000 → ∃ h', f_M_plain_3 n (iI (z : Int)) (iI (-(pl : Int))) (iI (-(k : Int))) h = some ((), h') ∧ wOut h h' bs (dP c e m k) := by
  intro m
  induction m with
  | zero =>
    intro k n h bs hk hk0 hn M W hl
    obtain ⟨n, rfl⟩ : ∃ q, n = q + 1 := ⟨n - 1, by omega⟩
    rw [f_M_plain_3, if_pos (by rw [iI_lt ⟨by omega, by omega⟩ ⟨by omega, by omega⟩]; omega)]
    exact ⟨h, rfl, wOut_0 W⟩
  | succ m ih =>
    intro k n h bs hk hk0 hn M W hl
    obtain ⟨n, rfl⟩ : ∃ q, n = q + 1 := ⟨n - 1, by omega⟩
    rw [f_M_plain_3, if_neg (by rw [iI_lt ⟨by omega, by omega⟩ ⟨by omega, by omega⟩]; omega), W.1]
    by_cases q : 1600 ≤ bs.length
    · rw [if_pos (by rw [show (1600 : Int32) = iI 1600 from rfl, iI_le ⟨by omega, by omega⟩ ⟨by omega, by omega⟩]; omega)]
      exact ⟨h, rfl, wOut_nil W q⟩
    · rw [if_neg (by rw [show (1600 : Int32) = iI 1600 from rfl, iI_le ⟨by omega, by omega⟩ ⟨by omega, by omega⟩]; omega)]
      have step : ∀ (h1 : Hp) (b1 : List Nat), kw h h1 → isW h1 (bs ++ b1) → b1.length ≤ 1 → ∃ h', f_M_plain_31 (fun v1 v3 v4 h => f_M_plain_3 n v1 v3 v4 h) (iI (z : Int)) (iI (-(pl : Int))) (iI (-(k : Int))) h1 = some ((), h') ∧ wOut h h' bs (b1 ++ (48 + dp c e (-(k : Int))) :: dP c e m (k + 1)) := by
        intro h1 b1 k1 W1 hb
        have M1 := isM_kw M k1
        obtain ⟨h2, e2, W2, k2⟩ := M_letter (b := 48 + dp c e (-(k : Int))) W1 (by rw [List.length_append]; omega)
        obtain ⟨h3, e3, w3⟩ := ih (k + 1) n h2 _ (by omega) (by omega) (by omega) (isM_kw M1 k2) W2 (by rw [List.length_append, List.length_append]; simp; omega)
        unfold f_M_plain_31
        rw [bd_t (M_digit hz M1 (by omega) (by omega)), i48, bd_t e2, im1, iI_add]
        refine ⟨h3, ?_, ?_⟩
        · rw [← e3, show -(k : Int) + -1 = -((k + 1 : Nat) : Int) by omega]
        · refine wOut_t k1 (wOut_t (U := [48 + dp c e (-(k : Int))]) k2 w3)
      rw [dP]
      by_cases y : k = 1
      · rw [if_pos (by rw [y]; rfl), if_pos y]
        obtain ⟨h1, e1, W1, k1⟩ := M_letter (b := 46) W (by omega)
        rw [show (46 : Int32) = iI ((46 : Nat) : Int) from rfl, bd_t e1]
        exact step h1 [46] k1 W1 (by simp)
      · rw [if_neg (by rw [im1, iI_eq ⟨by omega, by omega⟩ ⟨by omega, by omega⟩]; omega), if_neg y]
        exact step h [] (kw_r _) (by rw [List.append_nil]; exact W) (by simp)
theorem M_pA {z c pl : Nat} {s e : Int} (hz : z < 5) (he : -100000000 ≤ e ∧ e ≤ 100000000) (hp : pl ≤ 100000) : ∀ (m n : Nat) (h : Hp) (bs : List Nat), m + pl < n → isM h z s c e → isW h bs → bs.length + m + 2 * pl < 1000000 → ∃ h', f_M_plain_3 n (iI (z : Int)) (iI (-(pl : Int))) (iI ((m : Int) - 1)) h = some ((), h') ∧ wOut h h' bs (plT c e m pl) := by
  intro m
  induction m with
  | zero =>
    intro n h bs hn M W hl
    obtain ⟨h', e', w'⟩ := M_pB (pl := pl) hz he hp pl 1 n h bs (by omega) (by omega) (by omega) M W (by omega)
    refine ⟨h', e', ?_⟩
    unfold plT
    rw [dA, List.nil_append, ← dP_1]
    exact w'
  | succ m ih =>
    intro n h bs hn M W hl
    obtain ⟨n, rfl⟩ : ∃ q, n = q + 1 := ⟨n - 1, by omega⟩
    rw [show ((m + 1 : Nat) : Int) - 1 = (m : Int) by omega, f_M_plain_3, if_neg (by rw [iI_lt ⟨by omega, by omega⟩ ⟨by omega, by omega⟩]; omega), W.1]
    by_cases q : 1600 ≤ bs.length
    · rw [if_pos (by rw [show (1600 : Int32) = iI 1600 from rfl, iI_le ⟨by omega, by omega⟩ ⟨by omega, by omega⟩]; omega)]
      exact ⟨h, rfl, wOut_nil W q⟩
    · rw [if_neg (by rw [show (1600 : Int32) = iI 1600 from rfl, iI_le ⟨by omega, by omega⟩ ⟨by omega, by omega⟩]; omega), if_neg (by rw [im1, iI_eq ⟨by omega, by omega⟩ ⟨by omega, by omega⟩]; omega)]
      obtain ⟨h2, e2, W2, k2⟩ := M_letter (b := 48 + dp c e (m : Int)) W (by omega)
      obtain ⟨h3, e3, w3⟩ := ih n h2 _ (by omega) (isM_kw M k2) W2 (by rw [List.length_append]; simp; omega)
      unfold f_M_plain_31
      rw [bd_t (M_digit hz M (by omega) (by omega)), i48, bd_t e2, im1, iI_add]
      refine ⟨h3, e3, ?_⟩
      exact wOut_t (U := [48 + dp c e (m : Int)]) k2 w3
theorem M_338 {h : Hp} {v : Nat} {bs : List Nat} (hv : v < 100000) (W : isW h bs) (hl : bs.length < 1000) : ∃ h', f_M_write_338 (iI (v : Int)) h = some (0, h') ∧ isW h' (bs ++ [48 + v % 10]) ∧ kw h h' := by
  unfold f_M_write_338
  obtain ⟨h1, e1, W1, k1⟩ := M_letter (b := 48 + v % 10) W (by omega)
  rw [dm (by omega), i48, bd_t e1]
  exact ⟨h1, rfl, W1, k1⟩
theorem M_316 {h : Hp} {v : Nat} {bs : List Nat} (hv : v < 100000) (W : isW h bs) (hl : bs.length < 900) : ∃ h', f_M_write_316 (iI (v : Int)) h = some (0, h') ∧ isW h' (bs ++ ((if v < 10 then [] else [48 + v / 10 % 10]) ++ [48 + v % 10])) ∧ kw h h' := by
  unfold f_M_write_316
  by_cases q : v < 10
  · rw [if_pos (by rw [show (9 : Int32) = iI 9 from rfl, iI_le ⟨by omega, by omega⟩ ⟨by omega, by omega⟩]; omega), if_pos q]
    exact M_338 hv W (by omega)
  · rw [if_neg (by rw [show (9 : Int32) = iI 9 from rfl, iI_le ⟨by omega, by omega⟩ ⟨by omega, by omega⟩]; omega), if_neg q]
    obtain ⟨h1, e1, W1, k1⟩ := M_letter (b := 48 + v / 10 % 10) W (by omega)
    rw [dq (by omega), dm (by omega), i48, bd_t e1]
    obtain ⟨h2, e2, W2, k2⟩ := M_338 hv W1 (by rw [List.length_append]; simp; omega)
    exact ⟨h2, e2, by rw [List.append_assoc] at W2; exact W2, kw_t k1 k2⟩
theorem M_295 {h : Hp} {v : Nat} {bs : List Nat} (hv : v < 10000) (W : isW h bs) (hl : bs.length < 800) : ∃ h', f_M_write_295 (iI (v : Int)) h = some (0, h') ∧ isW h' (bs ++ exN v) ∧ kw h h' := by
  unfold f_M_write_295 exN
  by_cases q : v < 100
  · rw [if_pos (by rw [show (99 : Int32) = iI 99 from rfl, iI_le ⟨by omega, by omega⟩ ⟨by omega, by omega⟩]; omega), if_pos q]
    exact M_316 (by omega) W (by omega)
  · rw [if_neg (by rw [show (99 : Int32) = iI 99 from rfl, iI_le ⟨by omega, by omega⟩ ⟨by omega, by omega⟩]; omega), if_neg q]
    obtain ⟨h1, e1, W1, k1⟩ := M_letter (b := 48 + v / 100) W (by omega)
    rw [dq2 (by omega), i48, bd_t e1]
    obtain ⟨h2, e2, W2, k2⟩ := M_316 (v := v) (by omega) W1 (by rw [List.length_append]; simp; omega)
    exact ⟨h2, e2, by rw [List.append_assoc] at W2; exact W2, kw_t k1 k2⟩
theorem M_210 {z c a : Nat} {s e p : Int} (hz : z < 5) (hc0 : 0 < c) (hp : -999 ≤ p ∧ p ≤ 999) (ha : a ≤ 2) : ∀ (m k n : Nat) (h : Hp) (bs : List Nat), m = nd c - k → k ≤ 200 → m < n → nd c ≤ 100 → isM h z s c e → isW h bs → bs.length + m < 600 → ∃ h', f_M_write_210 n (iI (z : Int)) (iI p) (iI (a : Int)) (iI (k : Int)) h = some (0, h') ∧ isW h' (bs ++ (dC c m k ++ exT (p - ((a + 1 : Nat) : Int) + 1))) ∧ kw h h' := by
  have em := mn_c hc0
  intro m
  induction m with
  | zero =>
    intro k n h bs hk hk2 hn hc M W hl
    obtain ⟨n, rfl⟩ : ∃ q, n = q + 1 := ⟨n - 1, by omega⟩
    rw [f_M_write_210, chk_t (inz hz)]
    simp only [clz hz, M.1]
    rw [if_pos (by rw [em, iI_le ⟨by omega, by omega⟩ ⟨by omega, by omega⟩]; omega), iI_sub, dC, List.nil_append, show p - ((a + 1 : Nat) : Int) + 1 = p - (a : Int) by omega]
    unfold exT
    by_cases q : p - (a : Int) = 0
    · rw [if_pos (by rw [q]; rfl), if_pos q, List.append_nil]
      exact ⟨h, rfl, W, kw_r _⟩
    · rw [if_neg (by rw [i0, iI_eq ⟨by omega, by omega⟩ ⟨by omega, by omega⟩]; exact q), if_neg q]
      obtain ⟨h1, e1, W1, k1⟩ := M_letter (b := 69) W (by omega)
      rw [show (69 : Int32) = iI ((69 : Nat) : Int) from rfl, bd_t e1]
      by_cases q2 : 0 ≤ p - (a : Int)
      · rw [if_pos (by rw [i0, iI_le ⟨by omega, by omega⟩ ⟨by omega, by omega⟩]; exact q2), if_pos q2]
        obtain ⟨h2, e2, W2, k2⟩ := M_letter (b := 43) W1 (by rw [List.length_append]; simp; omega)
        obtain ⟨h3, e3, W3, k3⟩ := M_295 (v := (p - (a : Int)).natAbs) (by omega) W2 (by rw [List.length_append, List.length_append]; simp; omega)
        rw [show (43 : Int32) = iI ((43 : Nat) : Int) from rfl, bd_t e2, if_pos (by rw [i0, iI_le ⟨by omega, by omega⟩ ⟨by omega, by omega⟩]; exact q2)]
        refine ⟨h3, ?_, by rw [List.append_assoc, List.append_assoc] at W3; exact W3, kw_t (kw_t k1 k2) k3⟩
        rw [← e3]
        congr 2
        omega
      · rw [if_neg (by rw [i0, iI_le ⟨by omega, by omega⟩ ⟨by omega, by omega⟩]; exact q2), if_neg q2]
        obtain ⟨h2, e2, W2, k2⟩ := M_letter (b := 45) W1 (by rw [List.length_append]; simp; omega)
        obtain ⟨h3, e3, W3, k3⟩ := M_295 (v := (p - (a : Int)).natAbs) (by omega) W2 (by rw [List.length_append, List.length_append]; simp; omega)
        rw [show (45 : Int32) = iI ((45 : Nat) : Int) from rfl, bd_t e2, if_neg (by rw [i0, iI_le ⟨by omega, by omega⟩ ⟨by omega, by omega⟩]; exact q2), iI_neg]
        refine ⟨h3, ?_, by rw [List.append_assoc, List.append_assoc] at W3; exact W3, kw_t (kw_t k1 k2) k3⟩
        rw [← e3]
        congr 2
        omega
  | succ m ih =>
    intro k n h bs hk hk2 hn hc M W hl
    obtain ⟨n, rfl⟩ : ∃ q, n = q + 1 := ⟨n - 1, by omega⟩
    have ed : dz c (k : Int) = dg c (mn c) k := by unfold dz; rw [if_pos (by omega), Int.toNat_natCast, em]
    obtain ⟨h1, e1, W1, k1⟩ := M_letter (b := 48 + dz c (k : Int)) W (by omega)
    obtain ⟨h2, e2, W2, k2⟩ := ih (k + 1) n h1 _ (by omega) (by omega) (by omega) hc (isM_kw M k1) W1 (by rw [List.length_append]; simp; omega)
    refine ⟨h2, ?_, by rw [dC]; rw [List.append_assoc] at W2; exact W2, kw_t k1 k2⟩
    rw [f_M_write_210, chk_t (inz hz)]
    simp only [clz hz, M.1, ixN]
    rw [if_neg (by rw [em, iI_le ⟨by omega, by omega⟩ ⟨by omega, by omega⟩]; omega), chk_t (ixR hz (by omega)), clN (by omega), M.2.2.2.2 k (by omega), ← ed, i48, bd_t e1, scN]
    exact e2
theorem M_136 {z c a : Nat} {s e p : Int} (hz : z < 5) (hc0 : 0 < c) (hp : -999 ≤ p ∧ p ≤ 999) (ha : a ≤ 2) : ∀ (m k n : Nat) (h : Hp) (bs : List Nat), k + m = a + 1 → m < n → nd c ≤ 100 → isM h z s c e → isW h bs → bs.length + m < 300 → ∃ h', f_M_write_136 n (iI (z : Int)) (iI p) (iI (a : Int)) (iI (k : Int)) h = some (0, h') ∧ isW h' (bs ++ (dC c m k ++ ((if nd c ≤ a + 1 then [] else [46]) ++ (dC c (nd c - (a + 1)) (a + 1) ++ exT (p - ((a + 1 : Nat) : Int) + 1))))) ∧ kw h h' := by
  have em := mn_c hc0
  intro m
  induction m with
  | zero =>
    intro k n h bs hk hn hc M W hl
    obtain ⟨n, rfl⟩ : ∃ q, n = q + 1 := ⟨n - 1, by omega⟩
    rw [f_M_write_136, if_pos (by rw [iI_lt ⟨by omega, by omega⟩ ⟨by omega, by omega⟩]; omega), chk_t (inz hz)]
    simp only [clz hz, M.1, scN]
    by_cases q : nd c ≤ a + 1
    · rw [if_pos (by rw [em, iI_le ⟨by omega, by omega⟩ ⟨by omega, by omega⟩]; omega), if_pos q]
      exact M_210 hz hc0 hp ha (nd c - (a + 1)) (a + 1) fuel h bs rfl (by omega) (by unfold fuel; omega) hc M W (by omega)
    · rw [if_neg (by rw [em, iI_le ⟨by omega, by omega⟩ ⟨by omega, by omega⟩]; omega), if_neg q]
      obtain ⟨h1, e1, W1, k1⟩ := M_letter (b := 46) W (by omega)
      rw [show (46 : Int32) = iI ((46 : Nat) : Int) from rfl, bd_t e1]
      obtain ⟨h2, e2, W2, k2⟩ := M_210 hz hc0 hp ha (nd c - (a + 1)) (a + 1) fuel h1 _ rfl (by omega) (by unfold fuel; omega) hc (isM_kw M k1) W1 (by rw [List.length_append]; simp; omega)
      exact ⟨h2, e2, by rw [List.append_assoc] at W2; exact W2, kw_t k1 k2⟩
  | succ m ih =>
    intro k n h bs hk hn hc M W hl
    obtain ⟨n, rfl⟩ : ∃ q, n = q + 1 := ⟨n - 1, by omega⟩
    obtain ⟨h1, e1, W1, k1⟩ := M_letter (b := 48 + dz c (k : Int)) W (by omega)
    obtain ⟨h2, e2, W2, k2⟩ := ih (k + 1) n h1 _ (by omega) (by omega) hc (isM_kw M k1) W1 (by rw [List.length_append]; simp; omega)
    refine ⟨h2, ?_, by rw [dC]; rw [List.append_assoc] at W2; exact W2, kw_t k1 k2⟩
    rw [f_M_write_136, if_neg (by rw [iI_lt ⟨by omega, by omega⟩ ⟨by omega, by omega⟩]; omega), chk_t (inz hz)]
    simp only [clz hz, M.1, ixN]
    by_cases q : nd c ≤ k
    · have ed : dz c (k : Int) = 0 := by unfold dz; rw [if_neg (by omega)]
      rw [ed] at e1
      rw [if_pos (by rw [em, iI_le ⟨by omega, by omega⟩ ⟨by omega, by omega⟩]; omega), show (48 : Int32) = iI ((48 + 0 : Nat) : Int) from rfl, bd_t e1, scN]
      exact e2
    · have ed : dz c (k : Int) = dg c (mn c) k := by unfold dz; rw [if_pos (by omega), Int.toNat_natCast, em]
      rw [if_neg (by rw [em, iI_le ⟨by omega, by omega⟩ ⟨by omega, by omega⟩]; omega), chk_t (ixR hz (by omega)), clN (by omega), M.2.2.2.2 k (by omega), ← ed, i48, bd_t e1, scN]
      exact e2
theorem fm_tab2 : ∀ p : Nat, p < 1999 → iI ((p : Int) - 999) - iI ((p : Int) - 999) / 3 * 3 + 3 - (iI ((p : Int) - 999) - iI ((p : Int) - 999) / 3 * 3 + 3) / 3 * 3 = iI (((p : Int) - 999) % 3) := by decide +kernel
theorem M_wr {z dgs fm : Nat} {t : Int × Nat × Int} {h : Hp} (hz : z < 5) (hd : 0 < dgs) (hd2 : dgs ≤ 20) (hf : fm ≤ 1) (h4 : h 46 4 = iI (dgs : Int)) (h6 : h 46 6 = iI (fm : Int)) (ok : okN 100000000 20 t) (M : isM h z t.1 t.2.1 t.2.2) : ∃ h', f_M_write (iI (z : Int)) h = some (iI (if wrT dgs fm t = none then 42 else 0), h') ∧ kw h h' ∧ ∀ T, wrT dgs fm t = some T → isW h' T := by
  obtain ⟨s, c, e⟩ := t
  obtain ⟨o1, o2, o3, o4, o5, o6⟩ := ok
  have p1 : isS s := o1
  have p3 : c = 0 → e = 0 := o3
  have p4 : -(100000000 : Int) ≤ e := o4
  have p5 : e ≤ 100000000 := o5
  have p6 : nd c ≤ 20 := o6
  have M0 : isM h z s c e := M
  clear o1 o2 o3 o4 o5 o6 M
  have hfp : fp c e = if c = 0 then 0 else (nd c : Int) + e - 1 := rfl
  have hmn : mn c = max 1 (nd c) := rfl
  have ehi : (mn c : Int) - 1 + e = fp c e := by
    rw [hfp]
    by_cases c0 : c = 0
    · rw [if_pos c0, p3 c0, c0]; rfl
    · rw [if_neg c0, mn_c (by omega)]; omega
  have hbf : -100000001 ≤ fp c e ∧ fp c e ≤ 100000021 := by rw [hfp]; split <;> omega
  have main : ∀ h1 : Hp, kw h h1 → isW h1 (sgT s) → ∃ h', f_M_write_20 (iI (z : Int)) h1 = some (iI (if wrT dgs fm (s, c, e) = none then 42 else 0), h') ∧ kw h1 h' ∧ ∀ T, wrT dgs fm (s, c, e) = some T → isW h' T := by
    intro h1 k1 W1
    have M1 := isM_kw M0 k1
    have hs2 : (sgT s).length ≤ 1 := by rw [sgT_len s]; split <;> omega
    have a4 : h1 46 4 = iI (dgs : Int) := (k1.2 4 (by omega)).trans h4
    have a6 : h1 46 6 = iI (fm : Int) := (k1.2 6 (by omega)).trans h6
    have W89 : ¬ ((nd c : Int) + e ≤ dgs ∧ -e ≤ 2 * (dgs : Int)) → ∃ h', f_M_write_89 (iI (z : Int)) h1 = some (iI (if wrT dgs fm (s, c, e) = none then 42 else 0), h') ∧ kw h1 h' ∧ ∀ T, wrT dgs fm (s, c, e) = some T → isW h' T := by
      intro np
      have hc0 : 0 < c := by
        rcases Nat.eq_zero_or_pos c with y | y
        · exfalso
          apply np
          rw [p3 y, y, nd_0]
          omega
        · exact y
      unfold f_M_write_89 wrT
      rw [bd_t (M_high hz M1), ehi, a6]
      show ∃ h', _ = some (iI (if (if 999 < fp c e ∨ fp c e < -999 then none else _) = none then 42 else 0), h') ∧ _ ∧ _
      by_cases q : 999 < fp c e
      · rw [if_pos (by rw [show (999 : Int32) = iI 999 from rfl, iI_lt ⟨by omega, by omega⟩ ⟨by omega, by omega⟩]; exact q)]
        simp only [if_pos (show 999 < fp c e ∨ fp c e < -999 from Or.inl q)]
        exact ⟨h1, by simp; rfl, kw_r _, fun T hT => by cases hT⟩
      · rw [if_neg (by rw [show (999 : Int32) = iI 999 from rfl, iI_lt ⟨by omega, by omega⟩ ⟨by omega, by omega⟩]; exact q)]
        by_cases q2 : fp c e < -999
        · rw [if_neg (by rw [show (-999 : Int32) = iI (-999) from rfl, iI_le ⟨by omega, by omega⟩ ⟨by omega, by omega⟩]; omega)]
          simp only [if_pos (show 999 < fp c e ∨ fp c e < -999 from Or.inr q2)]
          exact ⟨h1, by simp; rfl, kw_r _, fun T hT => by cases hT⟩
        · rw [if_pos (by rw [show (-999 : Int32) = iI (-999) from rfl, iI_le ⟨by omega, by omega⟩ ⟨by omega, by omega⟩]; omega)]
          simp only [if_neg (show ¬ (999 < fp c e ∨ fp c e < -999) from by omega), if_neg (show ¬ ((nd c : Int) + e ≤ dgs ∧ -e ≤ 2 * (dgs : Int)) from np)]
          have ha : exA fm (fp c e) - 1 ≤ 2 := by unfold exA; split <;> omega
          have ha1 : exA fm (fp c e) - 1 + 1 = exA fm (fp c e) := by unfold exA; split <;> omega
          obtain ⟨h2, e2, W2, k2⟩ := M_136 (a := exA fm (fp c e) - 1) (p := fp c e) hz hc0 (by omega) ha (exA fm (fp c e)) 0 fuel h1 _ (by omega) (by unfold fuel; omega) (by omega) M1 W1 (by omega)
          rw [ha1] at W2
          refine ⟨h2, ?_, k2, fun T hT => by rw [← Option.some.inj hT]; exact W2⟩
          rw [show iI ((0 : Nat) : Int) = (0 : Int32) from rfl] at e2
          by_cases f1 : fm = 1
          · rw [if_pos (by rw [f1]; rfl)]
            obtain ⟨k, hk⟩ : ∃ k : Nat, fp c e = (k : Int) - 999 := ⟨(fp c e + 999).toNat, by omega⟩
            have ea : ((exA fm (fp c e) - 1 : Nat) : Int) = fp c e % 3 := by unfold exA; rw [if_pos f1]; omega
            rw [ea] at e2
            have tb := fm_tab2 k (by omega)
            rw [← hk] at tb
            rw [tb, e2]
            simp
            rfl
          · rw [if_neg (by rw [i1, iI_eq ⟨by omega, by omega⟩ ⟨by omega, by omega⟩]; omega)]
            have ea : exA fm (fp c e) - 1 = 0 := by unfold exA; rw [if_neg f1]
            rw [ea] at e2
            rw [show iI ((0 : Nat) : Int) = (0 : Int32) from rfl] at e2
            rw [e2]
            simp
            rfl
    unfold f_M_write_20
    rw [bd_t (M_high hz M1), a4, ehi, i1, iI_add]
    by_cases z1 : (nd c : Int) + e ≤ dgs
    · have hcz : fp c e + 1 ≤ dgs := by rw [hfp]; split <;> omega
      rw [if_neg (by rw [iI_lt ⟨by omega, by omega⟩ ⟨by omega, by omega⟩]; omega), chk_t (inz hz)]
      simp only [clz hz, M1.2.1]
      rw [iI_neg, show (2 : Int32) = iI 2 from rfl, iI_mul]
      by_cases z2 : -e ≤ 2 * (dgs : Int)
      · rw [if_neg (by rw [iI_lt ⟨by omega, by omega⟩ ⟨by omega, by omega⟩]; omega)]
        have eA : aA c e = max 1 (fp c e + 1).toNat := by
          unfold aA
          rw [hfp]
          by_cases y : c = 0
          · rw [if_pos y, y, nd_0, p3 y]; rfl
          · rw [if_neg y]; congr 2; omega
        have hrange : ¬ (999 < fp c e ∨ fp c e < -999) := by rw [hfp]; split <;> omega
        have ew : wrT dgs fm (s, c, e) = some (sgT s ++ plT c e (aA c e) (-e).toNat) := by
          unfold wrT
          simp only [if_neg hrange, if_pos (show (nd c : Int) + e ≤ dgs ∧ -e ≤ 2 * (dgs : Int) from ⟨z1, z2⟩)]
        have hal : aA c e ≤ 20 := by rw [eA]; omega
        obtain ⟨h2, e2, T', w1, w2, w3, w4⟩ := M_pA (pl := (-e).toNat) hz ⟨by omega, by omega⟩ (by omega) (aA c e) fuel h1 (sgT s) (by unfold fuel; omega) M1 W1 (by omega)
        have eT : T' = plT c e (aA c e) (-e).toNat := by
          rcases w4 with y | y
          · exact y
          · exfalso
            rw [List.length_append] at y
            rw [plT_len] at w3
            split at w3 <;> omega
        rw [ew]
        have e65 : ∀ v : Int, v = (aA c e : Int) - 1 → f_M_write_65 (iI (z : Int)) (iI (z : Int)) (iI v) h1 = some (0, h2) := by
          intro v hv
          unfold f_M_write_65 f_M_plain
          rw [chk_t (inz hz), chk_t (inz hz)]
          simp only [clz hz, M1.2.1]
          by_cases y : 0 ≤ e
          · rw [if_pos (by rw [i0, iI_le ⟨by omega, by omega⟩ ⟨by omega, by omega⟩]; exact y)]
            have : (-((-e).toNat : Int)) = 0 := by omega
            rw [this, ← hv] at e2
            rw [i0, bd_t e2]
          · rw [if_neg (by rw [i0, iI_le ⟨by omega, by omega⟩ ⟨by omega, by omega⟩]; exact y)]
            have : (-((-e).toNat : Int)) = e := by omega
            rw [this, ← hv] at e2
            rw [bd_t e2]
        refine ⟨h2, ?_, w2, fun T hT => by rw [← Option.some.inj hT, ← eT]; exact w1⟩
        by_cases y : fp c e + 1 ≤ 0
        · rw [if_pos (by rw [i0, iI_le ⟨by omega, by omega⟩ ⟨by omega, by omega⟩]; exact y), i0, e65 0 (by rw [eA]; omega)]
          simp
          rfl
        · rw [if_neg (by rw [i0, iI_le ⟨by omega, by omega⟩ ⟨by omega, by omega⟩]; exact y), iI_sub, e65 _ (by rw [eA]; omega)]
          simp
          rfl
      · rw [if_pos (by rw [iI_lt ⟨by omega, by omega⟩ ⟨by omega, by omega⟩]; omega)]
        exact W89 (fun y => z2 y.2)
    · have hcz : ¬ fp c e + 1 ≤ dgs := by
        rw [hfp]
        by_cases c0 : c = 0
        · exfalso; rw [c0, nd_0, p3 c0] at z1; omega
        · rw [if_neg c0]; omega
      rw [if_pos (by rw [iI_lt ⟨by omega, by omega⟩ ⟨by omega, by omega⟩]; omega)]
      exact W89 (fun y => z1 y.1)
  unfold f_M_write
  rw [chk_t (inz hz)]
  simp only [clz hz, up2_o _ _ _ _ (by omega : (53 : Nat) ≠ 46), M0.2.2.1]
  by_cases q : s < 0
  · rw [if_neg (by rw [i0, iI_le ⟨by omega, by omega⟩ ⟨by unfold isS at p1; omega, by unfold isS at p1; omega⟩]; omega)]
    obtain ⟨h1, e1, W1, k1⟩ := M_letter (b := 45) (isW_0 h) (by show 0 < 1000000; omega)
    rw [show (45 : Int32) = iI ((45 : Nat) : Int) from rfl, bd_t e1]
    obtain ⟨h2, e2, k2, w2⟩ := main h1 (kw_t (kw_0 _ _) k1) (by unfold sgT; rw [if_pos q]; exact W1)
    exact ⟨h2, e2, kw_t (kw_t (kw_0 _ _) k1) k2, w2⟩
  · rw [if_pos (by rw [i0, iI_le ⟨by omega, by omega⟩ ⟨by unfold isS at p1; omega, by unfold isS at p1; omega⟩]; omega)]
    obtain ⟨h2, e2, k2, w2⟩ := main (up2 h 46 13 0) (kw_0 _ _) (by unfold sgT; rw [if_neg q]; exact isW_0 h)
    exact ⟨h2, e2, kw_t (kw_0 _ _) k2, w2⟩
