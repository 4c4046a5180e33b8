/-! PURE 12: writing: the texts, the class's writer -/
def dA (c : Nat) (e : Int) : Nat → List Nat
  | 0 => []
  | n + 1 => (48 + dp c e (n : Int)) :: dA c e n
def dB (c : Nat) (e : Int) : Nat → Nat → List Nat
  | 0, _ => []
  | m + 1, k => (48 + dp c e (-(k : Int))) :: dB c e m (k + 1)
def dC (c : Nat) : Nat → Nat → List Nat
  | 0, _ => []
  | m + 1, k => (48 + dz c (k : Int)) :: dC c m (k + 1)
theorem dA_len (c : Nat) (e : Int) : ∀ n, (dA c e n).length = n
  | 0 => rfl
  | n + 1 => by rw [dA, List.length_cons, dA_len c e n]
theorem dB_len (c : Nat) (e : Int) : ∀ n k, (dB c e n k).length = n
  | 0, _ => rfl
  | n + 1, k => by rw [dB, List.length_cons, dB_len c e n]
theorem dC_len (c : Nat) : ∀ n k, (dC c n k).length = n
  | 0, _ => rfl
  | n + 1, k => by rw [dC, List.length_cons, dC_len c n]
def sgT (s : Int) : List Nat := if s < 0 then [45] else []
def plT (c : Nat) (e : Int) (a pl : Nat) : List Nat := dA c e a ++ (if pl = 0 then [] else 46 :: dB c e pl 1)
theorem plT_len (c : Nat) (e : Int) (a pl : Nat) : (plT c e a pl).length = a + (if pl = 0 then 0 else pl + 1) := by
  unfold plT
  rw [List.length_append, dA_len]
  split
  · rfl
  · rw [List.length_cons, dB_len]
theorem sgT_len (s : Int) : (sgT s).length = if s < 0 then 1 else 0 := by unfold sgT; split <;> rfl
/-- the exponent's text -/
def exN (v : Nat) : List Nat := (if v < 100 then [] else [48 + v / 100]) ++ ((if v < 10 then [] else [48 + v / 10 % 10]) ++ [48 + v % 10])
def exT (v : Int) : List Nat := if v = 0 then [] else 69 :: (if 0 ≤ v then 43 else 45) :: exN v.natAbs
def fp (c : Nat) (e : Int) : Int := if c = 0 then 0 else (nd c : Int) + e - 1
def exA (fm : Nat) (p : Int) : Nat := if fm = 1 then (p % 3).toNat + 1 else 1
def exF (fm c : Nat) (p : Int) : List Nat := dC c (exA fm p) 0 ++ ((if nd c ≤ exA fm p then [] else [46]) ++ (dC c (nd c - exA fm p) (exA fm p) ++ exT (p - (exA fm p : Int) + 1)))
def aA (c : Nat) (e : Int) : Nat := max 1 ((nd c : Int) + e).toNat
def wrT (dgs fm : Nat) (t : Int × Nat × Int) : Option (List Nat) :=
  if 999 < fp t.2.1 t.2.2 ∨ fp t.2.1 t.2.2 < -999 then none
  else if (nd t.2.1 : Int) + t.2.2 ≤ dgs ∧ -t.2.2 ≤ 2 * (dgs : Int) then some (sgT t.1 ++ plT t.2.1 t.2.2 (aA t.2.1 t.2.2) (-t.2.2).toNat)
  else some (sgT t.1 ++ exF fm t.2.1 (fp t.2.1 t.2.2))
-- ===== the class =====
theorem isN_k24 {h h' : Hp} {i c : Nat} {s e : Int} (hi : 28 < i) (H : isN h i s c e) (k : kp h h' 24 25) : isN h' i s c e := isN_eq H (k i (by omega) (by omega)) (k (i + 1) (by omega) (by omega))
theorem P_add {h : Hp} {bs : List Nat} {b : Nat} (H : isL h 24 bs) (hl : bs.length < 200) (hb : b < 256) : ∃ h', f_L_add 24 (iI (b : Int)) h = some ((), h') ∧ isL h' 24 (bs ++ [b]) ∧ kp h h' 24 25 := L_add H (by rw [show bl (24 + 1) = 200 from rfl]; exact hl) (byte_of hb) hb
theorem i48 (d : Nat) : (48 : Int32) + iI (d : Int) = iI ((48 + d : Nat) : Int) := by rw [show (48 : Int32) = iI 48 from rfl, iI_add]; rfl
theorem dp_lt (c : Nat) (e p : Int) : dp c e p < 10 := by unfold dp; split <;> omega
theorem T_sign {h : Hp} {i c : Nat} {s e : Int} {bs : List Nat} (hs : isS s) (N : isN h i s c e) (H : isL h 24 bs) (hl : bs.length < 200) : ∃ h', f_T_addSign i 24 h = some ((), h') ∧ isL h' 24 (bs ++ sgT s) ∧ kp h h' 24 25 := by
  unfold f_T_addSign sgT
  rw [N.2.2]
  by_cases q : s < 0
  · rw [if_neg (by rw [i0, iI_le ⟨by omega, by omega⟩ ⟨by unfold isS at hs; omega, by unfold isS at hs; omega⟩]; omega), if_pos q]
    obtain ⟨h', e', a', b'⟩ := P_add (b := 45) H hl (by omega)
    rw [show (45 : Int32) = iI ((45 : Nat) : Int) from rfl, bd_t e']
    exact ⟨h', rfl, a', b'⟩
  · rw [if_pos (by rw [i0, iI_le ⟨by omega, by omega⟩ ⟨by unfold isS at hs; omega, by unfold isS at hs; omega⟩]; omega), if_neg q]
    exact ⟨h, rfl, by rw [List.append_nil]; exact H, kp_r _ _ _⟩
theorem T_A {i c : Nat} {s e : Int} {v2 : Int32} (hi : 28 < i) (he : -100000000 ≤ e ∧ e ≤ 100000000) : ∀ (m n : Nat) (h : Hp) (bs : List Nat), m < n → isN h i s c e → isL h 24 bs → bs.length + m ≤ 200 → ∃ h', f_T_addPlain_18 n i v2 24 (iI ((m : Int) - 1)) h = (if v2 ≤ 0 then f_T_addPlain_55 fuel i v2 24 1 h' else bd (f_L_add 24 46 h') (fun _ h49 => f_T_addPlain_55 fuel i v2 24 1 h49)) ∧ isL h' 24 (bs ++ dA c e m) ∧ kp h h' 24 25 := by
  intro m
  induction m with
  | zero =>
    intro n h bs hn N H hl
    obtain ⟨n, rfl⟩ : ∃ q, n = q + 1 := ⟨n - 1, by omega⟩
    rw [f_T_addPlain_18, if_pos (by rw [i0, iI_lt ⟨by omega, by omega⟩ ⟨by omega, by omega⟩]; omega)]
    exact ⟨h, rfl, by rw [dA, List.append_nil]; exact H, kp_r _ _ _⟩
  | succ m ih =>
    intro n h bs hn N H hl
    obtain ⟨n, rfl⟩ : ∃ q, n = q + 1 := ⟨n - 1, by omega⟩
    have hd := dp_lt c e (m : Int)
    obtain ⟨h1, e1, a1, b1⟩ := P_add (b := 48 + dp c e (m : Int)) H (by omega) (by omega)
    obtain ⟨h', e', a', b'⟩ := ih n h1 _ (by omega) (isN_k24 hi N b1) a1 (by rw [List.length_append]; simp; omega)
    refine ⟨h', ?_, by rw [dA]; rw [List.append_assoc] at a'; exact a', kp_t b1 b'⟩
    rw [show ((m + 1 : Nat) : Int) - 1 = (m : Int) by omega, f_T_addPlain_18, if_neg (by rw [i0, iI_lt ⟨by omega, by omega⟩ ⟨by omega, by omega⟩]; omega), bd_t (N_digitAtPower N (by omega) (by omega)), i48, bd_t e1, im1, iI_add]
    exact e'
theorem T_B {i c pl : Nat} {s e : Int} (hi : 28 < i) (he : -100000000 ≤ e ∧ e ≤ 100000000) (hp : pl ≤ 200) : ∀ (m k n : Nat) (h : Hp) (bs : List Nat), k + m = pl + 1 → m < n → isN h i s c e → isL h 24 bs → bs.length + m ≤ 200 → ∃ h', f_T_addPlain_55 n i (iI (pl : Int)) 24 (iI (k : Int)) h = some ((), h') ∧ isL h' 24 (bs ++ dB c e m k) ∧ kp h h' 24 25 := by
  intro m
  induction m with
  | zero =>
    intro k n h bs hk hn N H hl
    obtain ⟨n, rfl⟩ : ∃ q, n = q + 1 := ⟨n - 1, by omega⟩
    rw [f_T_addPlain_55, if_pos (by rw [iI_lt ⟨by omega, by omega⟩ ⟨by omega, by omega⟩]; omega)]
    exact ⟨h, rfl, by rw [dB, List.append_nil]; exact H, kp_r _ _ _⟩
  | succ m ih =>
    intro k n h bs hk hn N H hl
    obtain ⟨n, rfl⟩ : ∃ q, n = q + 1 := ⟨n - 1, by omega⟩
    have hd := dp_lt c e (-(k : Int))
    obtain ⟨h1, e1, a1, b1⟩ := P_add (b := 48 + dp c e (-(k : Int))) H (by omega) (by omega)
    obtain ⟨h', e', a', b'⟩ := ih (k + 1) n h1 _ (by omega) (by omega) (isN_k24 hi N b1) a1 (by rw [List.length_append]; simp; omega)
    refine ⟨h', ?_, by rw [dB]; rw [List.append_assoc] at a'; exact a', kp_t b1 b'⟩
    rw [f_T_addPlain_55, if_neg (by rw [iI_lt ⟨by omega, by omega⟩ ⟨by omega, by omega⟩]; omega), iI_neg, bd_t (N_digitAtPower N (by omega) (by omega)), i48, bd_t e1, scN]
    exact e'
theorem aA_eq (c : Nat) (e : Int) (h : -100000000 ≤ e ∧ e ≤ 100000000) (hc : nd c ≤ 1000) : (if iI ((nd c : Int) + e) < 1 then (1 : Int32) else iI ((nd c : Int) + e)) = iI (aA c e : Int) := by
  unfold aA
  by_cases q : (nd c : Int) + e < 1
  · rw [if_pos (by rw [i1, iI_lt ⟨by omega, by omega⟩ ⟨by omega, by omega⟩]; exact q), show max 1 ((nd c : Int) + e).toNat = 1 by omega]; rfl
  · rw [if_neg (by rw [i1, iI_lt ⟨by omega, by omega⟩ ⟨by omega, by omega⟩]; exact q)]
    congr 1
    omega
theorem T_plain {i c pl : Nat} {s e : Int} {h : Hp} {bs : List Nat} (hi : 28 < i) (hs : isS s) (hc : nd c ≤ 1000) (he : -100000000 ≤ e ∧ e ≤ 100000000) (N : isN h i s c e) (H : isL h 24 bs) (hl : bs.length + (sgT s ++ plT c e (aA c e) pl).length ≤ 200) : ∃ h', f_T_addPlain i (iI (pl : Int)) 24 h = some ((), h') ∧ isL h' 24 (bs ++ (sgT s ++ plT c e (aA c e) pl)) ∧ kp h h' 24 25 := by
  rw [List.length_append, plT_len] at hl
  have ha : 1 ≤ aA c e := by unfold aA; omega
  obtain ⟨h1, e1, a1, b1⟩ := T_sign hs N H (by omega)
  unfold f_T_addPlain
  have N1 := isN_k24 hi N b1
  rw [bd_t e1, bd_t (N_ahead N1), aA_eq c e he hc, i1, iI_sub]
  obtain ⟨h2, e2, a2, b2⟩ := T_A (v2 := iI (pl : Int)) hi he (aA c e) fuel h1 _ (by unfold fuel; omega) N1 a1 (by rw [List.length_append]; omega)
  have N2 := isN_k24 hi N1 b2
  rw [e2]
  unfold plT
  by_cases q : pl = 0
  · rw [if_pos q] at hl
    rw [if_pos (by rw [i0, iI_le ⟨by omega, by omega⟩ ⟨by omega, by omega⟩]; omega), if_pos q]
    obtain ⟨h3, e3, a3, b3⟩ := T_B (pl := pl) hi he (by omega) 0 1 fuel h2 _ (by omega) (by unfold fuel; omega) N2 a2 (by rw [List.length_append, List.length_append, dA_len]; omega)
    refine ⟨h3, e3, ?_, kp_t (kp_t b1 b2) b3⟩
    rw [dB, List.append_nil, List.append_assoc] at a3
    rw [List.append_nil]
    exact a3
  · rw [if_neg q] at hl
    rw [if_neg (by rw [i0, iI_le ⟨by omega, by omega⟩ ⟨by omega, by omega⟩]; omega), if_neg q]
    obtain ⟨h3, e3, a3, b3⟩ := P_add (b := 46) a2 (by rw [List.length_append, List.length_append, dA_len]; omega) (by omega)
    rw [show (46 : Int32) = iI ((46 : Nat) : Int) from rfl, bd_t e3]
    obtain ⟨h4, e4, a4, b4⟩ := T_B (pl := pl) hi he (by omega) pl 1 fuel h3 _ (by omega) (by unfold fuel; omega) (isN_k24 hi N2 b3) a3 (by rw [List.length_append, List.length_append, List.length_append, dA_len]; simp; omega)
    refine ⟨h4, e4, ?_, kp_t (kp_t (kp_t b1 b2) b3) b4⟩
    have : bs ++ (sgT s ++ (dA c e (aA c e) ++ 46 :: dB c e pl 1)) = bs ++ sgT s ++ dA c e (aA c e) ++ [46] ++ dB c e pl 1 := by simp
    rw [this]
    exact a4
theorem dq {n : Nat} (h : n < 1000000) : iI (n : Int) / 10 = iI ((n / 10 : Nat) : Int) := by rw [show (10 : Int32) = iI 10 from rfl, iI_div (by omega) (by omega) (by omega) (by omega)]; rfl
theorem dq2 {n : Nat} (h : n < 1000000) : iI (n : Int) / 100 = iI ((n / 100 : Nat) : Int) := by rw [show (100 : Int32) = iI 100 from rfl, iI_div (by omega) (by omega) (by omega) (by omega)]; rfl
theorem dm {n : Nat} (h : n < 1000000) : iI (n : Int) - iI (n : Int) / 10 * 10 = iI ((n % 10 : Nat) : Int) := by rw [dq h, show (10 : Int32) = iI 10 from rfl, iI_mul, iI_sub]; congr 1; omega
theorem T_e48 {h : Hp} {v : Nat} {bs : List Nat} (hv : v < 100000) (H : isL h 24 bs) (hl : bs.length + 2 ≤ 200) : ∃ h', f_T_addExponent_48 24 (iI (v : Int)) h = some ((), h') ∧ isL h' 24 (bs ++ ((if v < 10 then [] else [48 + v / 10 % 10]) ++ [48 + v % 10])) ∧ kp h h' 24 25 := by
  unfold f_T_addExponent_48
  have h10 := Nat.mod_lt v (show 0 < 10 by decide)
  have h11 := Nat.mod_lt (v / 10) (show 0 < 10 by decide)
  rw [dm (by omega), i48, dq (by omega), dm (by omega), i48]
  by_cases q : v < 10
  · rw [if_pos (by rw [show (10 : Int32) = iI 10 from rfl, iI_lt ⟨by omega, by omega⟩ ⟨by omega, by omega⟩]; omega), if_pos q]
    obtain ⟨h1, e1, a1, b1⟩ := P_add (b := 48 + v % 10) H (by omega) (by omega)
    rw [bd_t e1]
    exact ⟨h1, rfl, a1, b1⟩
  · rw [if_neg (by rw [show (10 : Int32) = iI 10 from rfl, iI_lt ⟨by omega, by omega⟩ ⟨by omega, by omega⟩]; omega), if_neg q]
    obtain ⟨h1, e1, a1, b1⟩ := P_add (b := 48 + v / 10 % 10) H (by omega) (by omega)
    obtain ⟨h2, e2, a2, b2⟩ := P_add (b := 48 + v % 10) a1 (by rw [List.length_append]; simp; omega) (by omega)
    rw [bd_t e1, bd_t e2]
    exact ⟨h2, rfl, by rw [List.append_assoc] at a2; exact a2, kp_t b1 b2⟩
theorem abs_iI {v : Int} (hv : -100000 ≤ v ∧ v ≤ 100000) : (if 0 ≤ iI v then iI v else 0 - iI v) = iI (v.natAbs : Int) := by
  by_cases q : 0 ≤ v
  · rw [if_pos (by rw [i0, iI_le ⟨by omega, by omega⟩ ⟨by omega, by omega⟩]; exact q)]
    congr 1
    omega
  · rw [if_neg (by rw [i0, iI_le ⟨by omega, by omega⟩ ⟨by omega, by omega⟩]; exact q), i0, iI_sub]
    congr 1
    omega
theorem T_e23 {h : Hp} {v : Int} {b : Nat} {bs : List Nat} (hv : -2000 ≤ v ∧ v ≤ 2000) (hb : b < 256) (H : isL h 24 bs) (hl : bs.length + 4 ≤ 200) : ∃ h', f_T_addExponent_23 (iI v) 24 24 (iI (b : Int)) h = some ((), h') ∧ isL h' 24 (bs ++ (b :: exN v.natAbs)) ∧ kp h h' 24 25 := by
  unfold f_T_addExponent_23
  obtain ⟨h1, e1, a1, b1⟩ := P_add (b := b) H (by omega) hb
  rw [bd_t e1, abs_iI ⟨by omega, by omega⟩]
  unfold exN
  by_cases q : v.natAbs < 100
  · rw [if_pos (by rw [show (100 : Int32) = iI 100 from rfl, iI_lt ⟨by omega, by omega⟩ ⟨by omega, by omega⟩]; omega), if_pos q]
    obtain ⟨h2, e2, a2, b2⟩ := T_e48 (v := v.natAbs) (by omega) a1 (by rw [List.length_append]; simp; omega)
    exact ⟨h2, e2, by rw [List.append_assoc] at a2; exact a2, kp_t b1 b2⟩
  · have hq : v.natAbs / 100 < 100 := by omega
    rw [if_neg (by rw [show (100 : Int32) = iI 100 from rfl, iI_lt ⟨by omega, by omega⟩ ⟨by omega, by omega⟩]; omega), if_neg q, dq2 (by omega), i48]
    obtain ⟨h2, e2, a2, b2⟩ := P_add (b := 48 + v.natAbs / 100) a1 (by rw [List.length_append]; simp; omega) (by omega)
    obtain ⟨h3, e3, a3, b3⟩ := T_e48 (v := v.natAbs) (by omega) a2 (by rw [List.length_append, List.length_append]; simp; omega)
    rw [bd_t e2]
    exact ⟨h3, e3, by rw [List.append_assoc, List.append_assoc] at a3; exact a3, kp_t (kp_t b1 b2) b3⟩
theorem T_exp {h : Hp} {v : Int} {bs : List Nat} (hv : -2000 ≤ v ∧ v ≤ 2000) (H : isL h 24 bs) (hl : bs.length + 5 ≤ 200) : ∃ h', f_T_addExponent (iI v) 24 h = some ((), h') ∧ isL h' 24 (bs ++ exT v) ∧ kp h h' 24 25 := by
  unfold f_T_addExponent exT
  by_cases q : v = 0
  · rw [if_pos (by rw [q]; rfl), if_pos q]
    exact ⟨h, rfl, by rw [List.append_nil]; exact H, kp_r _ _ _⟩
  · rw [if_neg (by rw [i0, iI_eq ⟨by omega, by omega⟩ ⟨by omega, by omega⟩]; exact q), if_neg q]
    obtain ⟨h1, e1, a1, b1⟩ := P_add (b := 69) H (by omega) (by omega)
    rw [show (69 : Int32) = iI ((69 : Nat) : Int) from rfl, bd_t e1]
    by_cases q2 : 0 ≤ v
    · rw [if_pos (by rw [i0, iI_le ⟨by omega, by omega⟩ ⟨by omega, by omega⟩]; exact q2), if_pos q2]
      obtain ⟨h2, e2, a2, b2⟩ := T_e23 (v := v) (b := 43) hv (by omega) a1 (by rw [List.length_append]; simp; omega)
      exact ⟨h2, e2, by rw [List.append_assoc] at a2; exact a2, kp_t b1 b2⟩
    · rw [if_neg (by rw [i0, iI_le ⟨by omega, by omega⟩ ⟨by omega, by omega⟩]; exact q2), if_neg q2]
      obtain ⟨h2, e2, a2, b2⟩ := T_e23 (v := v) (b := 45) hv (by omega) a1 (by rw [List.length_append]; simp; omega)
      exact ⟨h2, e2, by rw [List.append_assoc] at a2; exact a2, kp_t b1 b2⟩
theorem T_79 {i c a : Nat} {s e p : Int} (hi : 28 < i) (hc : nd c ≤ 100) (hp : -999 ≤ p ∧ p ≤ 999) (ha : a ≤ 3) : ∀ (m k n : Nat) (h : Hp) (bs : List Nat), (m = nd c - k) → k ≤ 200 → m < n → isN h i s c e → isL h 24 bs → bs.length + m + 5 ≤ 200 → ∃ h', f_T_addWithExponent_79 n i 24 (iI p) (iI (a : Int)) (iI (k : Int)) h = some ((), h') ∧ isL h' 24 (bs ++ (dC c m k ++ exT (p - (a : Int) + 1))) ∧ kp h h' 24 25 := by
  intro m
  induction m with
  | zero =>
    intro k n h bs hk hk2 hn N H hl
    obtain ⟨n, rfl⟩ : ∃ q, n = q + 1 := ⟨n - 1, by omega⟩
    obtain ⟨h1, e1, a1, b1⟩ := T_exp (v := p - (a : Int) + 1) (by omega) H (by omega)
    rw [f_T_addWithExponent_79, N.1.1, if_pos (by rw [iI_le ⟨by omega, by omega⟩ ⟨by omega, by omega⟩]; omega), iI_sub, i1, iI_add, bd_t e1]
    exact ⟨h1, rfl, a1, b1⟩
  | succ m ih =>
    intro k n h bs hk hk2 hn N H hl
    obtain ⟨n, rfl⟩ : ∃ q, n = q + 1 := ⟨n - 1, by omega⟩
    have hd := dz_lt c (k : Int)
    obtain ⟨h1, e1, a1, b1⟩ := P_add (b := 48 + dz c (k : Int)) H (by omega) (by omega)
    obtain ⟨h', e', a', b'⟩ := ih (k + 1) n h1 _ (by omega) (by omega) (by omega) (isN_k24 hi N b1) a1 (by rw [List.length_append]; simp; omega)
    refine ⟨h', ?_, by rw [dC]; rw [List.append_assoc] at a'; exact a', kp_t b1 b'⟩
    rw [f_T_addWithExponent_79, N.1.1, if_neg (by rw [iI_le ⟨by omega, by omega⟩ ⟨by omega, by omega⟩]; omega), bd_t (N_digit N.1 ⟨by omega, by omega⟩), i48, bd_t e1, scN]
    exact e'
theorem T_34 {i c a : Nat} {s e p : Int} (hi : 28 < i) (hc : nd c ≤ 100) (hp : -999 ≤ p ∧ p ≤ 999) (ha : a ≤ 3) : ∀ (m k n : Nat) (h : Hp) (bs : List Nat), k + m = a → m < n → isN h i s c e → isL h 24 bs → bs.length + m + 1 + nd c + 5 ≤ 200 → ∃ h', f_T_addWithExponent_34 n i 24 (iI p) (iI (a : Int)) (iI (k : Int)) h = some ((), h') ∧ isL h' 24 (bs ++ (dC c m k ++ ((if nd c ≤ a then [] else [46]) ++ (dC c (nd c - a) a ++ exT (p - (a : Int) + 1))))) ∧ kp h h' 24 25 := by
  intro m
  induction m with
  | zero =>
    intro k n h bs hk hn N H hl
    obtain ⟨n, rfl⟩ : ∃ q, n = q + 1 := ⟨n - 1, by omega⟩
    rw [f_T_addWithExponent_34, N.1.1, if_pos (by rw [iI_le ⟨by omega, by omega⟩ ⟨by omega, by omega⟩]; omega)]
    by_cases q : nd c ≤ a
    · rw [if_pos (by rw [iI_le ⟨by omega, by omega⟩ ⟨by omega, by omega⟩]; omega), if_pos q]
      exact T_79 hi hc hp ha (nd c - a) a fuel h bs rfl (by omega) (by unfold fuel; omega) N H (by omega)
    · rw [if_neg (by rw [iI_le ⟨by omega, by omega⟩ ⟨by omega, by omega⟩]; omega), if_neg q]
      obtain ⟨h1, e1, a1, b1⟩ := P_add (b := 46) H (by omega) (by omega)
      rw [show (46 : Int32) = iI ((46 : Nat) : Int) from rfl, bd_t e1]
      obtain ⟨h2, e2, a2, b2⟩ := T_79 hi hc hp ha (nd c - a) a fuel h1 _ rfl (by omega) (by unfold fuel; omega) (isN_k24 hi N b1) a1 (by rw [List.length_append]; simp; omega)
      exact ⟨h2, e2, by rw [List.append_assoc] at a2; exact a2, kp_t b1 b2⟩
  | succ m ih =>
    intro k n h bs hk hn N H hl
    obtain ⟨n, rfl⟩ : ∃ q, n = q + 1 := ⟨n - 1, by omega⟩
    have hd := dz_lt c (k : Int)
    obtain ⟨h1, e1, a1, b1⟩ := P_add (b := 48 + dz c (k : Int)) H (by omega) (by omega)
    obtain ⟨h', e', a', b'⟩ := ih (k + 1) n h1 _ (by omega) (by omega) (isN_k24 hi N b1) a1 (by rw [List.length_append]; simp; omega)
    refine ⟨h', ?_, by rw [dC]; rw [List.append_assoc] at a'; exact a', kp_t b1 b'⟩
    rw [f_T_addWithExponent_34, if_neg (by rw [iI_le ⟨by omega, by omega⟩ ⟨by omega, by omega⟩]; omega), bd_t (N_digit N.1 ⟨by omega, by omega⟩), i48, bd_t e1, scN]
    exact e'
theorem fm_tab : ∀ p : Nat, p < 1999 → ((0 : Int32) ≤ (iI ((p : Int) - 999) ^^^ 3) ↔ 999 ≤ p) ∧ (999 ≤ p → iI ((p : Int) - 999) - iI ((p : Int) - 999) / 3 * 3 = iI (((p : Int) - 999) % 3)) ∧ (p < 999 → iI ((p : Int) - 999) - iI ((p : Int) - 999) / 3 * 3 = 0 → ((p : Int) - 999) % 3 = 0) ∧ (p < 999 → iI ((p : Int) - 999) - iI ((p : Int) - 999) / 3 * 3 ≠ 0 → iI ((p : Int) - 999) - iI ((p : Int) - 999) / 3 * 3 + 3 = iI (((p : Int) - 999) % 3)) := by decide +kernel
theorem fm_eq {p : Int} {h : Hp} (hp : -999 ≤ p ∧ p ≤ 999) : f_A_floorMod (iI p) 3 h = some (iI (p % 3), h) := by
  obtain ⟨k, hk⟩ : ∃ k : Nat, p = (k : Int) - 999 := ⟨(p + 999).toNat, by omega⟩
  subst hk
  obtain ⟨t1, t2, t3, t4⟩ := fm_tab k (by omega)
  unfold f_A_floorMod
  rw [chk_t (by decide)]
  by_cases q : 999 ≤ k
  · rw [if_pos (t1.mpr q), t2 q]
  · rw [if_neg (fun y => q (t1.mp y))]
    by_cases z : iI ((k : Int) - 999) - iI ((k : Int) - 999) / 3 * 3 = 0
    · rw [if_pos z, z, t3 (by omega) z]; rfl
    · rw [if_neg z, t4 (by omega) z]
theorem T_withExp {i c fm : Nat} {s e : Int} {h : Hp} (hi : 28 < i) (hs : isS s) (hc : nd c ≤ 100) (hf : fm ≤ 1) (hp : -999 ≤ fp c e ∧ fp c e ≤ 999) (N : isN h i s c e) (H : isL h 24 []) : ∃ h', f_T_addWithExponent i (iI (fm : Int)) 24 h = some ((), h') ∧ isL h' 24 (sgT s ++ exF fm c (fp c e)) ∧ kp h h' 24 25 := by
  obtain ⟨h1, e1, a1, b1⟩ := T_sign hs N H (by show 0 < 200; omega)
  have N1 := isN_k24 hi N b1
  have ha : exA fm (fp c e) ≤ 3 := by unfold exA; split <;> omega
  have hsl := sgT_len s
  have hs2 : (sgT s).length ≤ 1 := by rw [hsl]; split <;> omega
  rw [List.nil_append] at a1
  obtain ⟨h2, e2, a2, b2⟩ := T_34 (a := exA fm (fp c e)) (p := fp c e) hi hc hp ha (exA fm (fp c e)) 0 fuel h1 _ (by omega) (by unfold fuel; omega) N1 a1 (by omega)
  unfold f_T_addWithExponent
  rw [bd_t (N_firstPower N), show (if c = 0 then (0 : Int) else (nd c : Int) + e - 1) = fp c e from rfl]
  refine ⟨h2, ?_, a2, kp_t b1 b2⟩
  rw [show iI ((0 : Nat) : Int) = (0 : Int32) from rfl] at e2
  by_cases q : fm = 1
  · have ea : exA fm (fp c e) = (fp c e % 3).toNat + 1 := by unfold exA; rw [if_pos q]
    rw [if_pos (by rw [q]; rfl), bd_t (fm_eq hp), bd_t e1]
    rw [ea, ← scN] at e2
    have : ((fp c e % 3).toNat : Int) = fp c e % 3 := by omega
    rw [this] at e2
    exact e2
  · have ea : exA fm (fp c e) = 1 := by unfold exA; rw [if_neg q]
    rw [if_neg (by rw [i1, iI_eq ⟨by omega, by omega⟩ ⟨by omega, by omega⟩]; omega), bd_t e1]
    rw [ea] at e2
    exact e2
theorem C_wr {i dgs fm : Nat} {t : Int × Nat × Int} {h : Hp} (hi : 28 < i) (hd : 0 < dgs) (hd2 : dgs ≤ 20) (hf : fm ≤ 1) (ok : okN 100000000 20 t) (N : isN h i t.1 t.2.1 t.2.2) : ∃ h', f_T_write i (iI (dgs : Int)) (iI (fm : Int)) 24 h = some (iI (if wrT dgs fm t = none then 42 else 0), h') ∧ kp h h' 24 25 ∧ ∀ T, wrT dgs fm t = some T → isL h' 24 T := by
  obtain ⟨s, c, e⟩ := t
  obtain ⟨o1, o2, o3, o4, o5, o6⟩ := ok
  have p1 : isS s := o1
  have p3 : c = 0 → e = 0 := o3
  have p4 : -(100000000 : Int) ≤ e := o4
  have p5 : e ≤ 100000000 := o5
  have p6 : nd c ≤ 20 := o6
  have N' : isN h i s c e := N
  clear o1 o2 o3 o4 o5 o6 N
  have hfp : fp c e = if c = 0 then 0 else (nd c : Int) + e - 1 := rfl
  have hbf : -100000001 ≤ fp c e ∧ fp c e ≤ 100000021 := by rw [hfp]; split <;> omega
  unfold f_T_write wrT
  rw [bd_t (N_firstPower N'), ← hfp]
  show ∃ h', _ = some (iI (if (if 999 < fp c e ∨ fp c e < -999 then none else _) = none then 42 else 0), h') ∧ _ ∧ _
  by_cases q : 999 < fp c e
  · rw [if_pos (by rw [show (999 : Int32) = iI 999 from rfl, iI_lt ⟨by omega, by omega⟩ ⟨by omega, by omega⟩]; exact q)]
    simp only [if_pos (show 999 < fp c e ∨ fp c e < -999 from Or.inl q)]
    exact ⟨h, by simp; rfl, kp_r _ _ _, fun T hT => by cases hT⟩
  · rw [if_neg (by rw [show (999 : Int32) = iI 999 from rfl, iI_lt ⟨by omega, by omega⟩ ⟨by omega, by omega⟩]; exact q)]
    by_cases q2 : fp c e < -999
    · rw [if_neg (by rw [show (-999 : Int32) = iI (-999) from rfl, iI_le ⟨by omega, by omega⟩ ⟨by omega, by omega⟩]; omega)]
      simp only [if_pos (show 999 < fp c e ∨ fp c e < -999 from Or.inr q2)]
      exact ⟨h, by simp; rfl, kp_r _ _ _, fun T hT => by cases hT⟩
    · rw [if_pos (by rw [show (-999 : Int32) = iI (-999) from rfl, iI_le ⟨by omega, by omega⟩ ⟨by omega, by omega⟩]; omega)]
      simp only [if_neg (show ¬ (999 < fp c e ∨ fp c e < -999) from by omega)]
      have k0 : kp h (up2 h 24 1 0) 24 25 := kp_up _ _ _ _ _
      have N0 := isN_k24 hi N' k0
      have L0 : isL (up2 h 24 1 0) 24 [] := isL_nil
      obtain ⟨hx, ex, ax, bx⟩ := T_withExp hi p1 (show nd c ≤ 100 by omega) hf (show -999 ≤ fp c e ∧ fp c e ≤ 999 by omega) N0 L0
      rw [bd_t (N_ahead N0)]
      by_cases z : (nd c : Int) + e ≤ dgs
      · rw [if_neg (by rw [iI_lt ⟨by omega, by omega⟩ ⟨by omega, by omega⟩]; omega), bd_t (N_places (by omega) N0), bd_t (N_places (by omega) N0)]
        have epl : (if 0 ≤ e then (0 : Int) else -e) = ((-e).toNat : Int) := by split <;> omega
        rw [epl, show (2 : Int32) = iI 2 from rfl, iI_mul]
        by_cases z2 : -e ≤ 2 * (dgs : Int)
        · rw [if_neg (by rw [iI_lt ⟨by omega, by omega⟩ ⟨by omega, by omega⟩]; omega)]
          simp only [if_pos (show (nd c : Int) + e ≤ dgs ∧ -e ≤ 2 * (dgs : Int) from ⟨z, z2⟩)]
          have hsl := sgT_len s
          have hs2 : (sgT s).length ≤ 1 := by rw [hsl]; split <;> omega
          have hal : aA c e ≤ 20 := by unfold aA; omega
          obtain ⟨hy, ey, ay, by'⟩ := T_plain (pl := (-e).toNat) hi p1 (by omega) ⟨by omega, by omega⟩ N0 L0 (by rw [List.length_append, plT_len]; simp; split <;> omega)
          rw [bd_t ey]
          refine ⟨hy, by simp; rfl, kp_t k0 by', fun T hT => ?_⟩
          rw [← Option.some.inj hT]
          rw [List.nil_append] at ay
          exact ay
        · rw [if_pos (by rw [iI_lt ⟨by omega, by omega⟩ ⟨by omega, by omega⟩]; omega)]
          simp only [if_neg (show ¬ ((nd c : Int) + e ≤ dgs ∧ -e ≤ 2 * (dgs : Int)) from fun y => z2 y.2)]
          rw [bd_t ex]
          refine ⟨hx, by simp; rfl, kp_t k0 bx, fun T hT => ?_⟩
          rw [← Option.some.inj hT]
          exact ax
      · rw [if_pos (by rw [iI_lt ⟨by omega, by omega⟩ ⟨by omega, by omega⟩]; omega)]
        simp only [if_neg (show ¬ ((nd c : Int) + e ≤ dgs ∧ -e ≤ 2 * (dgs : Int)) from fun y => z y.1)]
        rw [bd_t ex]
        refine ⟨hx, by simp; rfl, kp_t k0 bx, fun T hT => ?_⟩
        rw [← Option.some.inj hT]
        exact ax
