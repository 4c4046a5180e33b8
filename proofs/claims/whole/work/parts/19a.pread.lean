/-! PURE 9: reading: what both sides read, and the class's reader -/
theorem bAt_rg {bs : List Nat} (H : ∀ k, k < bs.length → bs.getD k 0 < 256) (z : Int) : -1 ≤ bAt bs z ∧ bAt bs z ≤ 255 := by
  unfold bAt
  split
  · have := H z.toNat (by omega)
    omega
  · omega
theorem bAt_out {bs : List Nat} {k : Nat} (h : bs.length ≤ k) : bAt bs (k : Int) = -1 := by
  unfold bAt
  rw [if_neg (by omega)]
abbrev isC (b : Int) : Prop := 48 ≤ b ∧ b ≤ 57
def skp (bs : List Nat) : Nat → Nat → Nat
  | 0, k => k
  | m + 1, k => if bAt bs (k : Int) = 32 then skp bs m (k + 1) else k
def rdD (b : Nat → Int) : Nat → Nat → Nat → Nat → Nat → Nat → Nat × Nat × Nat × Nat
  | 0, k, c, n, pl, _ => (k, c, n, pl)
  | m + 1, k, c, n, pl, pt => if isC (b k) then rdD b m (k + 1) (10 * c + (b k - 48).toNat) (n + 1) (pl + pt) pt else if b k = 46 ∧ pt = 0 then rdD b m (k + 1) c n pl 1 else (k, c, n, pl)
def rdE (b : Nat → Int) : Nat → Nat → Nat → Nat × Nat
  | 0, k, v => (k, v)
  | m + 1, k, v => if isC (b k) then rdE b m (k + 1) (10 * v + (b k - 48).toNat) else (k, v)
theorem skp_le (bs : List Nat) : ∀ m k, k ≤ skp bs m k ∧ skp bs m k ≤ k + m := by
  intro m
  induction m with
  | zero => intro k; exact ⟨Nat.le_refl _, Nat.le_refl _⟩
  | succ m ih =>
    intro k
    rw [skp]
    split
    · have := ih (k + 1); omega
    · omega
theorem rdD_k (b : Nat → Int) : ∀ m k c n pl pt, k ≤ (rdD b m k c n pl pt).1 ∧ (rdD b m k c n pl pt).1 ≤ k + m ∧ n ≤ (rdD b m k c n pl pt).2.2.1 ∧ pl ≤ (rdD b m k c n pl pt).2.2.2 ∧ (pt ≤ 1 → (rdD b m k c n pl pt).2.2.2 ≤ pl + m) := by
  intro m
  induction m with
  | zero => intro k c n pl pt; exact ⟨Nat.le_refl _, Nat.le_refl _, Nat.le_refl _, Nat.le_refl _, fun _ => Nat.le_refl _⟩
  | succ m ih =>
    intro k c n pl pt
    rw [rdD]
    split
    · have := ih (k + 1) (10 * c + (b k - 48).toNat) (n + 1) (pl + pt) pt
      refine ⟨by omega, by omega, by omega, by omega, fun q => ?_⟩
      have := this.2.2.2.2 q
      omega
    · split
      · have := ih (k + 1) c n pl 1
        refine ⟨by omega, by omega, by omega, by omega, fun q => ?_⟩
        have := this.2.2.2.2 (by omega)
        omega
      · exact ⟨Nat.le_refl _, by show k ≤ _; omega, Nat.le_refl _, Nat.le_refl _, fun _ => by show pl ≤ _; omega⟩
theorem rdE_k (b : Nat → Int) : ∀ m k v, k ≤ (rdE b m k v).1 ∧ (rdE b m k v).1 ≤ k + m ∧ (rdE b m k v).2 < (v + 1) * 10 ^ m := by
  intro m
  induction m with
  | zero => intro k v; exact ⟨Nat.le_refl _, Nat.le_refl _, by show v < _; simp⟩
  | succ m ih =>
    intro k v
    rw [rdE]
    split
    · rename_i q
      have := ih (k + 1) (10 * v + (b k - 48).toNat)
      refine ⟨by omega, by omega, Nat.lt_of_lt_of_le this.2.2 ?_⟩
      rw [Nat.pow_succ, Nat.mul_comm (10 ^ m) 10, ← Nat.mul_assoc]
      exact Nat.mul_le_mul_right _ (by have := q.2; omega)
    · refine ⟨Nat.le_refl _, by show k ≤ _; omega, ?_⟩
      show v < (v + 1) * 10 ^ (m + 1)
      exact Nat.lt_of_lt_of_le (Nat.lt_succ_self v) (Nat.le_mul_of_pos_right _ (p10 _))
/-- what stands behind sign and blanks: where it ends, the digits, the exponent -/
def rdX (b : Nat → Int) (k1 c pl : Nat) : Option (Nat × Nat × Int) :=
  if b k1 = 69 ∨ b k1 = 101 then
    if (rdE b 3 (if b (k1 + 1) = 43 ∨ b (k1 + 1) = 45 then k1 + 1 + 1 else k1 + 1) 0).1 = (if b (k1 + 1) = 43 ∨ b (k1 + 1) = 45 then k1 + 1 + 1 else k1 + 1) then none
    else some ((rdE b 3 (if b (k1 + 1) = 43 ∨ b (k1 + 1) = 45 then k1 + 1 + 1 else k1 + 1) 0).1, c, (if b (k1 + 1) = 45 then -((rdE b 3 (if b (k1 + 1) = 43 ∨ b (k1 + 1) = 45 then k1 + 1 + 1 else k1 + 1) 0).2 : Int) else ((rdE b 3 (if b (k1 + 1) = 43 ∨ b (k1 + 1) = 45 then k1 + 1 + 1 else k1 + 1) 0).2 : Int)) - (pl : Int))
  else some (k1, c, -(pl : Int))
def rdT (b : Nat → Int) (m k : Nat) : Option (Nat × Nat × Int) :=
  if (rdD b m k 0 0 0 0).2.2.1 = 0 then none else rdX b (rdD b m k 0 0 0 0).1 (rdD b m k 0 0 0 0).2.1 (rdD b m k 0 0 0 0).2.2.2
/-- a NUMBER: sign, digits, exponent -/
def nrm (s : Int) (c : Nat) (e : Int) : Int × Nat × Int := if c = 0 then (0, 0, 0) else (s, c, e)
def rdK (bs : List Nat) : Nat := skp bs bs.length 0
def rdK1 (bs : List Nat) : Nat := if bAt bs (rdK bs : Int) = 43 ∨ bAt bs (rdK bs : Int) = 45 then rdK bs + 1 else rdK bs
def rdK2 (bs : List Nat) : Nat := skp bs (bs.length - rdK1 bs) (rdK1 bs)
def rdN (bs : List Nat) : Option (Int × Nat × Int) := match rdT (fun k => bAt bs (k : Int)) (bs.length - rdK2 bs) (rdK2 bs) with
  | none => none
  | some r => if skp bs (bs.length - r.1) r.1 = bs.length then some (nrm (if bAt bs (rdK bs : Int) = 45 then -1 else 1) r.2.1 r.2.2) else none
-- ===== the class's reader =====
theorem R_isDigit {b : Int} {h : Hp} (hb : bI b) : f_R_isDigit (iI b) h = some (iI (if isC b then 1 else 0), h) := by
  unfold f_R_isDigit
  simp (disch := omega) only [iI_lit, iI_lt]
  by_cases q : b < 48
  · rw [if_pos (by omega), if_neg (by omega)]; rfl
  · rw [if_neg (by omega)]
    by_cases q2 : 57 < b
    · rw [if_pos (by omega), if_neg (by omega)]; rfl
    · rw [if_neg (by omega), if_pos (by omega)]; rfl
def kr (h h' : Hp) (i : Nat) : Prop := ∀ j, j ≠ 26 → j ≠ i → j ≠ i + 1 → h' j = h j
theorem kr_t {h h1 h2 : Hp} {i : Nat} (x : kr h h1 i) (y : kr h1 h2 i) : kr h h2 i := fun j a b c => (y j a b c).trans (x j a b c)
def k26 (h h' : Hp) : Prop := ∀ j, j ≠ 26 → h' j = h j
theorem k26_t {h h1 h2 : Hp} (x : k26 h h1) (y : k26 h1 h2) : k26 h h2 := fun j a => (y j a).trans (x j a)
theorem kr_26 {h h' : Hp} {i : Nat} (x : k26 h h') : kr h h' i := fun j a _ _ => x j a
theorem isL_26 {h h' : Hp} {i : Nat} {bs : List Nat} (hi : i < 25) (H : isL h i bs) (x : k26 h h') : isL h' i bs := isL_eq H (x i (by omega)) (x (i + 1) (by omega))
theorem R_skip_loop {i : Nat} {bs : List Nat} (hi : i < 25) : ∀ (m k n : Nat) (h : Hp), k + m = bs.length → m < n → isL h i bs → h 26 0 = iI (k : Int) → ∃ h', f_R_skipBlanks_0 n i h = some ((), h') ∧ h' 26 0 = iI (skp bs m k : Int) ∧ k26 h h' := by
  intro m
  induction m with
  | zero =>
    intro k n h hk hn H h26
    obtain ⟨n, rfl⟩ : ∃ q, n = q + 1 := ⟨n - 1, by omega⟩
    have hl := H.2.1
    have hbl := bl_le (i + 1)
    rw [f_R_skipBlanks_0, H.1, h26, if_pos (by rw [iI_le ⟨by omega, by omega⟩ ⟨by omega, by omega⟩]; omega)]
    exact ⟨h, rfl, h26, fun _ _ => rfl⟩
  | succ m ih =>
    intro k n h hk hn H h26
    obtain ⟨n, rfl⟩ : ∃ q, n = q + 1 := ⟨n - 1, by omega⟩
    have hl := H.2.1
    have hbl := bl_le (i + 1)
    have hr := bAt_rg H.2.2.1 (k : Int)
    rw [f_R_skipBlanks_0, H.1, h26, if_neg (by rw [iI_le ⟨by omega, by omega⟩ ⟨by omega, by omega⟩]; omega), bd_t (L_byteAt H ⟨by omega, by omega⟩), h26, skp]
    by_cases q : bAt bs (k : Int) = 32
    · rw [if_pos (by rw [q]; rfl), if_pos q, scN]
      have k1 : k26 h (up2 h 26 0 (iI ((k + 1 : Nat) : Int))) := fun j a => up2_ne _ _ _ a
      obtain ⟨h', e', a', b'⟩ := ih (k + 1) n _ (by omega) (by omega) (isL_26 hi H k1) (up2_s _ _ _ _)
      exact ⟨h', e', a', k26_t k1 b'⟩
    · rw [if_neg (by rw [show (32 : Int32) = iI 32 from rfl, iI_eq ⟨by omega, by omega⟩ ⟨by omega, by omega⟩]; exact q), if_neg q]
      exact ⟨h, rfl, h26, fun _ _ => rfl⟩
theorem R_skip {i : Nat} {bs : List Nat} {k : Nat} {h : Hp} (hi : i < 25) (hk : k ≤ bs.length) (H : isL h i bs) (h26 : h 26 0 = iI (k : Int)) : ∃ h', f_R_skipBlanks i h = some ((), h') ∧ h' 26 0 = iI (skp bs (bs.length - k) k : Int) ∧ k26 h h' := by
  have hl := H.2.1
  have hbl := bl_le (i + 1)
  exact R_skip_loop hi (bs.length - k) k fuel h (by omega) (by unfold fuel; omega) H h26
theorem R_sign {i : Nat} {bs : List Nat} {k : Nat} {h : Hp} (hk : k ≤ 1000) (H : isL h i bs) (h26 : h 26 0 = iI (k : Int)) : ∃ h', f_R_readSign i h = some (iI (if bAt bs (k : Int) = 45 then -1 else 1), h') ∧ h' 26 0 = iI ((if bAt bs (k : Int) = 43 ∨ bAt bs (k : Int) = 45 then k + 1 else k : Nat) : Int) ∧ k26 h h' := by
  have hr := bAt_rg H.2.2.1 (k : Int)
  unfold f_R_readSign f_R_readSign_21
  rw [h26, bd_t (L_byteAt H ⟨by omega, by omega⟩), h26, scN]
  have k1 : k26 h (up2 h 26 0 (iI ((k + 1 : Nat) : Int))) := fun j a => up2_ne _ _ _ a
  simp (disch := omega) only [iI_lit, iI_eq]
  by_cases q : bAt bs (k : Int) = 43
  · rw [if_pos (by omega), if_neg (by omega), if_neg (by omega), if_pos (by omega)]
    exact ⟨_, rfl, up2_s _ _ _ _, k1⟩
  · rw [if_neg (by omega)]
    by_cases q2 : bAt bs (k : Int) = 45
    · rw [if_pos (by omega), if_pos (by omega), if_pos q2, if_pos (Or.inr q2)]
      exact ⟨_, rfl, up2_s _ _ _ _, k1⟩
    · rw [if_neg (by omega), if_neg (by omega), if_neg q2, if_neg (by omega)]
      exact ⟨h, rfl, h26, fun _ _ => rfl⟩
theorem R_digits_loop {i j : Nat} {bs : List Nat} (hi : i < 25) (hj : 28 < j) (hlen : bs.length ≤ 200) (hil : il (j + 1) = 200) : ∀ (m k n : Nat) (h : Hp) (c nn pl pt : Nat), k + m = bs.length → m < n → isL h i bs → h 26 0 = iI (k : Int) → isD h j c → c < 10 ^ nn → nn ≤ k → pt ≤ 1 → ∃ h', f_R_readDigits_8 n i j (iI (nn : Int)) (iI (pl : Int)) (iI (pt : Int)) h = some (iI (if (rdD (fun k => bAt bs (k : Int)) m k c nn pl pt).2.2.1 = 0 then 0 else 1), h') ∧ h' 26 0 = iI ((rdD (fun k => bAt bs (k : Int)) m k c nn pl pt).1 : Int) ∧ isD h' j (rdD (fun k => bAt bs (k : Int)) m k c nn pl pt).2.1 ∧ h' j 2 = iI (-((rdD (fun k => bAt bs (k : Int)) m k c nn pl pt).2.2.2 : Int)) ∧ kr h h' j := by
  have fin : ∀ (h : Hp) (k c nn pl : Nat), nn ≤ 200 → h 26 0 = iI (k : Int) → isD h j c → ∃ h', f_R_readDigits_95 j (iI (nn : Int)) (iI (pl : Int)) h = some (iI (if nn = 0 then 0 else 1), h') ∧ h' 26 0 = iI (k : Int) ∧ isD h' j c ∧ h' j 2 = iI (-(pl : Int)) ∧ kr h h' j := by
    intro h k c nn pl hn h26 D
    have r : (up2 h j 2 (iI (-(pl : Int)))) 26 0 = iI (k : Int) ∧ isD (up2 h j 2 (iI (-(pl : Int)))) j c ∧ (up2 h j 2 (iI (-(pl : Int)))) j 2 = iI (-(pl : Int)) ∧ kr h (up2 h j 2 (iI (-(pl : Int)))) j := ⟨by rw [up2_o _ _ _ _ (by omega)]; exact h26, isD_eq D (up2_k _ _ _ (by omega)) (up2_ne _ _ _ (by omega)), up2_s _ _ _ _, fun q _ b _ => up2_ne _ _ _ b⟩
    unfold f_R_readDigits_95
    rw [iI_neg]
    by_cases q : nn = 0
    · rw [if_pos (by rw [i0, iI_le ⟨by omega, by omega⟩ ⟨by omega, by omega⟩]; omega), if_pos q]
      exact ⟨_, rfl, r⟩
    · rw [if_neg (by rw [i0, iI_le ⟨by omega, by omega⟩ ⟨by omega, by omega⟩]; omega), if_neg q]
      exact ⟨_, rfl, r⟩
  intro m
  induction m with
  | zero =>
    intro k n h c nn pl pt hk hn H h26 D hc hnn hpt
    obtain ⟨n, rfl⟩ : ∃ q, n = q + 1 := ⟨n - 1, by omega⟩
    rw [f_R_readDigits_8, H.1, h26, if_pos (by rw [iI_le ⟨by omega, by omega⟩ ⟨by omega, by omega⟩]; omega)]
    exact fin h k c nn pl (by omega) h26 D
  | succ m ih =>
    intro k n h c nn pl pt hk hn H h26 D hc hnn hpt
    obtain ⟨n, rfl⟩ : ∃ q, n = q + 1 := ⟨n - 1, by omega⟩
    have hr := bAt_rg H.2.2.1 (k : Int)
    rw [f_R_readDigits_8, H.1, h26, if_neg (by rw [iI_le ⟨by omega, by omega⟩ ⟨by omega, by omega⟩]; omega), bd_t (L_byteAt H ⟨by omega, by omega⟩), bd_t (R_isDigit ⟨by omega, by omega⟩), rdD]
    by_cases q : isC (bAt bs (k : Int))
    · rw [if_pos q, if_neg (by decide), if_pos q]
      have ed : iI (bAt bs (k : Int)) - 48 = iI (((bAt bs (k : Int) - 48).toNat : Nat) : Int) := by rw [show (48 : Int32) = iI 48 from rfl, iI_sub]; congr 1; omega
      have hd : (bAt bs (k : Int) - 48).toNat < 10 := by omega
      have hc2 : 10 * c + (bAt bs (k : Int) - 48).toNat < 10 ^ (nn + 1) := by rw [Nat.pow_succ]; omega
      obtain ⟨h1, e1, D1, K1⟩ := N_push (d := (bAt bs (k : Int) - 48).toNat) D hd (by rw [hil]; have := nd_le_of hc2; omega)
      rw [ed, bd_t e1]
      have h126 : h1 26 0 = iI (k : Int) := by rw [K1.1 26 (by omega) (by omega)]; exact h26
      have H1 : isL h1 i bs := isL_eq H (K1.1 i (by omega) (by omega)) (K1.1 (i + 1) (by omega) (by omega))
      have k2 : k26 h1 (up2 h1 26 0 (iI ((k + 1 : Nat) : Int))) := fun y a => up2_ne _ _ _ a
      obtain ⟨h', e', a', b', c', d'⟩ := ih (k + 1) n (up2 h1 26 0 (iI ((k + 1 : Nat) : Int))) (10 * c + (bAt bs (k : Int) - 48).toNat) (nn + 1) (pl + pt) pt (by omega) (by omega) (isL_26 hi H1 k2) (up2_s _ _ _ _) (isD_eq D1 (by rw [k2 j (by omega)]) (k2 (j + 1) (by omega))) hc2 (by omega) hpt
      refine ⟨h', ?_, a', b', c', kr_t (kr_t (fun y _ b c => K1.1 y b c) (kr_26 k2)) d'⟩
      unfold f_R_readDigits_61
      rw [h126, scN, scN]
      have ep : iI (pl : Int) + iI (pt : Int) = iI ((pl + pt : Nat) : Int) := by rw [iI_add]; rfl
      rw [← ep] at e'
      rcases Nat.lt_or_ge pt 1 with p | p
      · have : pt = 0 := by omega
        subst this
        rw [if_pos (by rfl)]
        exact e'
      · have : pt = 1 := by omega
        subst this
        rw [if_neg (by decide)]
        exact e'
    · rw [if_neg q, if_pos (by rfl), if_neg q]
      by_cases q2 : bAt bs (k : Int) = 46
      · rw [if_pos (by rw [q2]; rfl)]
        by_cases q3 : pt = 0
        · rw [if_pos (by rw [q3]; rfl), if_pos (show bAt bs (k : Int) = 46 ∧ pt = 0 from ⟨q2, q3⟩), h26, scN]
          have k2 : k26 h (up2 h 26 0 (iI ((k + 1 : Nat) : Int))) := fun y a => up2_ne _ _ _ a
          obtain ⟨h', e', a', b', c', d'⟩ := ih (k + 1) n (up2 h 26 0 (iI ((k + 1 : Nat) : Int))) c nn pl 1 (by omega) (by omega) (isL_26 hi H k2) (up2_s _ _ _ _) (isD_eq D (by rw [k2 j (by omega)]) (k2 (j + 1) (by omega))) hc (by omega) (by omega)
          exact ⟨h', e', a', b', c', kr_t (kr_26 k2) d'⟩
        · rw [if_neg (by rw [i0, iI_eq ⟨by omega, by omega⟩ ⟨by omega, by omega⟩]; omega), if_neg (show ¬ (bAt bs (k : Int) = 46 ∧ pt = 0) from fun z => q3 z.2)]
          exact fin h k c nn pl (by omega) h26 D
      · rw [if_neg (by rw [show (46 : Int32) = iI 46 from rfl, iI_eq ⟨by omega, by omega⟩ ⟨by omega, by omega⟩]; exact q2), if_neg (show ¬ (bAt bs (k : Int) = 46 ∧ pt = 0) from fun z => q2 z.1)]
        exact fin h k c nn pl (by omega) h26 D
theorem R_exp_loop {i j : Nat} {bs : List Nat} {sg : Int} (hi : i < 25) (hj : 28 < j) (hlen : bs.length ≤ 200) : ∀ (m k n v sn : Nat) (h : Hp) (e : Int), sn + m = 3 → m < n → k ≤ 1000 → isL h i bs → h 26 0 = iI (k : Int) → h j 2 = iI e → ∃ h', f_R_readExponent_46 n i j (iI sg) (iI (v : Int)) (iI (sn : Int)) h = some (iI (if sn + ((rdE (fun k => bAt bs (k : Int)) m k v).1 - k) = 0 then 0 else 1), h') ∧ h' 26 0 = iI ((rdE (fun k => bAt bs (k : Int)) m k v).1 : Int) ∧ h' j 2 = iI (e + sg * ((rdE (fun k => bAt bs (k : Int)) m k v).2 : Int)) ∧ (∀ y, y ≠ 26 → y ≠ j → h' y = h y) ∧ (∀ q, q ≠ 2 → h' j q = h j q) := by
  have fin : ∀ (h : Hp) (k v sn : Nat) (e : Int), sn ≤ 3 → h 26 0 = iI (k : Int) → h j 2 = iI e → ∃ h', f_R_readExponent_101 j (iI sg) (iI (v : Int)) (iI (sn : Int)) h = some (iI (if sn + (k - k) = 0 then 0 else 1), h') ∧ h' 26 0 = iI (k : Int) ∧ h' j 2 = iI (e + sg * (v : Int)) ∧ (∀ y, y ≠ 26 → y ≠ j → h' y = h y) ∧ (∀ q, q ≠ 2 → h' j q = h j q) := by
    intro h k v sn e hn h26 h2
    have r : (up2 h j 2 (iI (e + sg * (v : Int)))) 26 0 = iI (k : Int) ∧ (up2 h j 2 (iI (e + sg * (v : Int)))) j 2 = iI (e + sg * (v : Int)) ∧ (∀ y, y ≠ 26 → y ≠ j → (up2 h j 2 (iI (e + sg * (v : Int)))) y = h y) ∧ (∀ q, q ≠ 2 → (up2 h j 2 (iI (e + sg * (v : Int)))) j q = h j q) := ⟨by rw [up2_o _ _ _ _ (by omega)]; exact h26, up2_s _ _ _ _, fun q _ b => up2_ne _ _ _ b, fun q a => up2_k _ _ _ a⟩
    unfold f_R_readExponent_101
    rw [h2, iI_mul, iI_add]
    by_cases q : sn = 0
    · rw [if_pos (by rw [i0, iI_le ⟨by omega, by omega⟩ ⟨by omega, by omega⟩]; omega), if_pos (by omega)]
      exact ⟨_, rfl, r⟩
    · rw [if_neg (by rw [i0, iI_le ⟨by omega, by omega⟩ ⟨by omega, by omega⟩]; omega), if_neg (by omega)]
      exact ⟨_, rfl, r⟩
  intro m
  induction m with
  | zero =>
    intro k n v sn h e hs hn hk H h26 h2
    obtain ⟨n, rfl⟩ : ∃ q, n = q + 1 := ⟨n - 1, by omega⟩
    rw [f_R_readExponent_46, if_pos (by rw [show (3 : Int32) = iI 3 from rfl, iI_le ⟨by omega, by omega⟩ ⟨by omega, by omega⟩]; omega)]
    exact fin h k v sn e (by omega) h26 h2
  | succ m ih =>
    intro k n v sn h e hs hn hk H h26 h2
    obtain ⟨n, rfl⟩ : ∃ q, n = q + 1 := ⟨n - 1, by omega⟩
    have hr := bAt_rg H.2.2.1 (k : Int)
    rw [f_R_readExponent_46, if_neg (by rw [show (3 : Int32) = iI 3 from rfl, iI_le ⟨by omega, by omega⟩ ⟨by omega, by omega⟩]; omega), h26, bd_t (L_byteAt H ⟨by omega, by omega⟩), bd_t (R_isDigit ⟨by omega, by omega⟩), rdE]
    by_cases q : isC (bAt bs (k : Int))
    · rw [if_pos q, if_neg (by decide), if_pos q, h26, bd_t (L_byteAt H ⟨by omega, by omega⟩), h26, scN, scN]
      have k2 : k26 h (up2 h 26 0 (iI ((k + 1 : Nat) : Int))) := fun y a => up2_ne _ _ _ a
      have ed : iI (v : Int) * 10 + iI (bAt bs (k : Int)) - 48 = iI ((10 * v + (bAt bs (k : Int) - 48).toNat : Nat) : Int) := by rw [show (48 : Int32) = iI 48 from rfl, show (10 : Int32) = iI 10 from rfl, iI_mul, iI_add, iI_sub]; congr 1; omega
      obtain ⟨h', e', a', b', c', d'⟩ := ih (k + 1) n (10 * v + (bAt bs (k : Int) - 48).toNat) (sn + 1) (up2 h 26 0 (iI ((k + 1 : Nat) : Int))) e (by omega) (by omega) (by
        rcases Nat.lt_or_ge k bs.length with z | z
        · omega
        · rw [bAt_out z] at q; omega) (isL_26 hi H k2) (up2_s _ _ _ _) (by rw [k2 j (by omega)]; exact h2)
      refine ⟨h', ?_, a', b', fun y p1 p2 => (c' y p1 p2).trans (k2 y p1), fun y p => (d' y p).trans (by rw [k2 j (by omega)])⟩
      rw [ed, e']
      have := rdE_k (fun k => bAt bs (k : Int)) m (k + 1) (10 * v + (bAt bs (k : Int) - 48).toNat)
      rw [if_neg (by omega), if_neg (by omega)]
    · rw [if_neg q, if_pos (by rfl), if_neg q]
      exact fin h k v sn e (by omega) h26 h2
theorem rdX_n (b : Nat → Int) (k c pl : Nat) (hb : ¬ (b k = 69 ∨ b k = 101)) : rdX b k c pl = some (k, c, -(pl : Int)) := by unfold rdX; rw [if_neg hb]
theorem R_exponent {i j : Nat} {bs : List Nat} {k c pl : Nat} {h : Hp} (hi : i < 25) (hj : 28 < j) (hlen : bs.length ≤ 200) (hk : k ≤ bs.length) (H : isL h i bs) (h26 : h 26 0 = iI (k : Int)) (D : isD h j c) (h2 : h j 2 = iI (-(pl : Int))) : ∃ h', f_R_readExponent i j h = some (iI (if (rdX (fun k => bAt bs (k : Int)) k c pl) = none then 0 else 1), h') ∧ kr h h' j ∧ ∀ r, rdX (fun k => bAt bs (k : Int)) k c pl = some r → h' 26 0 = iI (r.1 : Int) ∧ isD h' j r.2.1 ∧ h' j 2 = iI r.2.2 ∧ r.1 ≤ bs.length := by
  have hr := bAt_rg H.2.2.1 (k : Int)
  unfold f_R_readExponent
  rw [h26, bd_t (L_byteAt H ⟨by omega, by omega⟩)]
  by_cases q : bAt bs (k : Int) = 69 ∨ bAt bs (k : Int) = 101
  · have e1 : (if iI (bAt bs (k : Int)) = 69 then f_R_readExponent_23 i j h else if iI (bAt bs (k : Int)) = 101 then f_R_readExponent_23 i j h else some (1, h)) = f_R_readExponent_23 i j h := by
      simp (disch := omega) only [iI_lit, iI_eq]
      by_cases z : bAt bs (k : Int) = 69
      · rw [if_pos (by omega)]
      · rw [if_neg (by omega), if_pos (by omega)]
    rw [e1]
    have hkl : k < bs.length := by
      rcases Nat.lt_or_ge k bs.length with z | z
      · exact z
      · rw [bAt_out z] at q; omega
    unfold f_R_readExponent_23
    have k2 : k26 h (up2 h 26 0 (iI ((k + 1 : Nat) : Int))) := fun y a => up2_ne _ _ _ a
    obtain ⟨h1, e1, a1, b1⟩ := R_sign (k := k + 1) (by omega) (isL_26 hi H k2) (up2_s _ _ _ _)
    rw [h26, scN, bd_t e1]
    have k3 := k26_t k2 b1
    obtain ⟨h', e', a', b', c', d'⟩ := R_exp_loop (sg := if bAt bs ((k + 1 : Nat) : Int) = 45 then -1 else 1) hi hj hlen 3 _ fuel 0 0 h1 (-(pl : Int)) (by omega) (by unfold fuel; omega) (by split <;> omega) (isL_26 hi H k3) a1 (by rw [k3 j (by omega)]; exact h2)
    refine ⟨h', ?_, fun y p1 p2 p3 => (c' y p1 p2).trans (k3 y p1), fun r hr2 => ?_⟩
    · refine e'.trans ?_
      unfold rdX
      simp only [if_pos q]
      have hh := rdE_k (fun k => bAt bs (k : Int)) 3 (if bAt bs ((k + 1 : Nat) : Int) = 43 ∨ bAt bs ((k + 1 : Nat) : Int) = 45 then k + 1 + 1 else k + 1) 0
      by_cases z : (rdE (fun k => bAt bs (k : Int)) 3 (if bAt bs ((k + 1 : Nat) : Int) = 43 ∨ bAt bs ((k + 1 : Nat) : Int) = 45 then k + 1 + 1 else k + 1) 0).1 = (if bAt bs ((k + 1 : Nat) : Int) = 43 ∨ bAt bs ((k + 1 : Nat) : Int) = 45 then k + 1 + 1 else k + 1)
      · rw [if_pos (by omega), if_pos z, if_pos rfl]
      · rw [if_neg (by omega), if_neg z, if_neg (by simp)]
    · unfold rdX at hr2
      simp only [if_pos q] at hr2
      by_cases z : (rdE (fun k => bAt bs (k : Int)) 3 (if bAt bs ((k + 1 : Nat) : Int) = 43 ∨ bAt bs ((k + 1 : Nat) : Int) = 45 then k + 1 + 1 else k + 1) 0).1 = (if bAt bs ((k + 1 : Nat) : Int) = 43 ∨ bAt bs ((k + 1 : Nat) : Int) = 45 then k + 1 + 1 else k + 1)
      · rw [if_pos z] at hr2; cases hr2
      · rw [if_neg z] at hr2
        have hr3 := (Option.some.inj hr2).symm
        subst hr3
        refine ⟨a', isD_eq D ((d' 1 (by omega)).trans (by rw [k3 j (by omega)])) ((c' (j + 1) (by omega) (by omega)).trans (k3 _ (by omega))), b'.trans ?_, ?_⟩
        · congr 1
          show _ = (if bAt bs ((k + 1 : Nat) : Int) = 45 then _ else _) - (pl : Int)
          split <;> omega
        · have big : ∀ m k v, k ≤ bs.length → (rdE (fun k => bAt bs (k : Int)) m k v).1 ≤ bs.length := by
            intro m
            induction m with
            | zero => intro k v hk; exact hk
            | succ m ih =>
              intro k v hk
              rw [rdE]
              split
              · rename_i y
                refine ih _ _ ?_
                rcases Nat.lt_or_ge k bs.length with z | z
                · omega
                · rw [bAt_out z] at y; omega
              · exact hk
          refine big _ _ _ ?_
          split
          · rename_i y
            rcases Nat.lt_or_ge (k + 1) bs.length with z | z
            · omega
            · rw [bAt_out z] at y; omega
          · omega
  · have e1 : (if iI (bAt bs (k : Int)) = 69 then f_R_readExponent_23 i j h else if iI (bAt bs (k : Int)) = 101 then f_R_readExponent_23 i j h else some (1, h)) = some (1, h) := by
      simp (disch := omega) only [iI_lit, iI_eq]
      rw [if_neg (by omega), if_neg (by omega)]
    rw [e1, rdX_n _ _ _ _ q]
    refine ⟨h, by rw [if_neg (by simp)]; rfl, fun _ _ _ _ => rfl, fun r hr2 => ?_⟩
    have hr3 := (Option.some.inj hr2).symm
    subst hr3
    exact ⟨h26, D, h2, hk⟩
theorem C_read {i j : Nat} {bs : List Nat} {h : Hp} (hi : i < 25) (hj : 28 < j) (hlen : bs.length ≤ 200) (hil : il (j + 1) = 200) (H : isL h i bs) : ∃ h', f_R_read i j h = some (iI (if rdN bs = none then 0 else 1), h') ∧ kr h h' j ∧ ∀ r, rdN bs = some r → isN h' j r.1 r.2.1 r.2.2 := by
  unfold f_R_read
  have k0 : k26 h (up2 h 26 0 0) := fun y a => up2_ne _ _ _ a
  obtain ⟨h1, e1, N1, K1⟩ := N_clear (up2 h 26 0 0) j
  rw [bd_t e1]
  have F1 : kr h h1 j := kr_t (kr_26 k0) (fun y _ b c => K1 y b c)
  have lift : ∀ {g : Hp}, kr h g j → isL g i bs := fun x => isL_eq H (x i (by omega) (by omega) (by omega)) (x (i + 1) (by omega) (by omega) (by omega))
  have h126 : h1 26 0 = iI ((0 : Nat) : Int) := by rw [K1 26 (by omega) (by omega), up2_s]; rfl
  obtain ⟨h2, e2, a2, b2⟩ := R_skip hi (Nat.zero_le _) (lift F1) h126
  rw [Nat.sub_zero] at a2
  rw [bd_t e2]
  have F2 := kr_t F1 (kr_26 (i := j) b2)
  have hk0 := skp_le bs bs.length 0
  obtain ⟨h3, e3, a3, b3⟩ := R_sign (k := skp bs bs.length 0) (by omega) (lift F2) a2
  rw [bd_t e3]
  have F3 := kr_t F2 (kr_26 (i := j) b3)
  have hk1 : rdK1 bs ≤ bs.length := by
    unfold rdK1 rdK
    split
    · rename_i z
      rcases Nat.lt_or_ge (skp bs bs.length 0) bs.length with y | y
      · omega
      · rw [bAt_out y] at z; omega
    · omega
  obtain ⟨h4, e4, a4, b4⟩ := R_skip (k := rdK1 bs) hi hk1 (lift F3) a3
  rw [bd_t e4]
  have F4 := kr_t F3 (kr_26 (i := j) b4)
  have hk2 := skp_le bs (bs.length - rdK1 bs) (rdK1 bs)
  have D4 : isD h4 j 0 := by
    have k9 := k26_t (k26_t b2 b3) b4
    exact isD_eq N1.1 (by rw [k9 j (by omega)]) (k9 (j + 1) (by omega))
  obtain ⟨h5, e5, a5, b5, c5, d5⟩ := R_digits_loop (i := i) (j := j) hi hj hlen hil (bs.length - rdK2 bs) (rdK2 bs) fuel h4 0 0 0 0 (by unfold rdK2; omega) (by unfold fuel; omega) (lift F4) a4 D4 (by decide) (by omega) (by omega)
  have F5 := kr_t F4 d5
  have hD := rdD_k (fun k => bAt bs (k : Int)) (bs.length - rdK2 bs) (rdK2 bs) 0 0 0 0
  have hK2 : rdK2 bs ≤ bs.length := by unfold rdK2; omega
  rw [bd_t (show f_R_readDigits i j h4 = _ from e5)]
  unfold rdN rdT
  by_cases q : (rdD (fun k => bAt bs (k : Int)) (bs.length - rdK2 bs) (rdK2 bs) 0 0 0 0).2.2.1 = 0
  · rw [if_pos q, if_pos (by rfl), if_pos q]
    exact ⟨h5, rfl, F5, fun r hr => by cases hr⟩
  · rw [if_neg q, if_neg (by decide), if_neg q]
    obtain ⟨h6, e6, F6, R6⟩ := R_exponent (h := h5) (pl := (rdD (fun k => bAt bs (k : Int)) (bs.length - rdK2 bs) (rdK2 bs) 0 0 0 0).2.2.2) hi hj hlen (by omega) (lift F5) a5 b5 c5
    rw [bd_t e6]
    have F6 := kr_t F5 F6
    cases hx : rdX (fun k => bAt bs (k : Int)) (rdD (fun k => bAt bs (k : Int)) (bs.length - rdK2 bs) (rdK2 bs) 0 0 0 0).1 (rdD (fun k => bAt bs (k : Int)) (bs.length - rdK2 bs) (rdK2 bs) 0 0 0 0).2.1 (rdD (fun k => bAt bs (k : Int)) (bs.length - rdK2 bs) (rdK2 bs) 0 0 0 0).2.2.2 with
    | none =>
      rw [if_pos rfl, if_pos (by rfl)]
      exact ⟨h6, rfl, F6, fun r hr => by cases hr⟩
    | some r =>
      obtain ⟨r1, r2, r3, r4⟩ := R6 r hx
      rw [if_neg (by simp; decide)]
      obtain ⟨h7, e7, a7, b7⟩ := R_skip (k := r.1) hi r4 (lift F6) r1
      rw [bd_t e7, b7 j (by omega), r3]
      have F7 := kr_t F6 (kr_26 (i := j) b7)
      obtain ⟨h8, e8, N8, K8⟩ := N_settle (h := h7) (s := if bAt bs ((skp bs bs.length 0 : Nat) : Int) = 45 then -1 else 1) (e := r.2.2) (isD_eq r2 (by rw [b7 j (by omega)]) (b7 (j + 1) (by omega)))
      rw [bd_t e8]
      have F8 : kr h h8 j := kr_t F7 (fun y _ b c => K8 y b c)
      have hk7 := skp_le bs (bs.length - r.1) r.1
      rw [K8 26 (by omega) (by omega), a7, (lift F8).1]
      by_cases z : skp bs (bs.length - r.1) r.1 = bs.length
      · rw [if_pos (by rw [z])]
        refine ⟨h8, ?_, F8, fun t ht => ?_⟩
        · show _ = some (iI (if (if skp bs (bs.length - r.1) r.1 = bs.length then _ else none) = none then 0 else 1), h8)
          rw [if_pos z, if_neg (by simp)]; rfl
        · have ht2 : (if skp bs (bs.length - r.1) r.1 = bs.length then some (nrm (if bAt bs (rdK bs : Int) = 45 then -1 else 1) r.2.1 r.2.2) else none) = some t := ht
          rw [if_pos z] at ht2
          have ht3 := (Option.some.inj ht2).symm
          subst ht3
          unfold nrm
          by_cases c0 : r.2.1 = 0
          · rw [if_pos c0, if_pos c0] at N8
            rw [if_pos c0]
            rw [c0] at N8
            exact N8
          · rw [if_neg c0, if_neg c0] at N8
            rw [if_neg c0]
            exact N8
      · rw [if_neg (by rw [iI_eq ⟨by omega, by omega⟩ ⟨by omega, by omega⟩]; omega)]
        refine ⟨h8, ?_, F8, fun t ht => ?_⟩
        · show _ = some (iI (if (if skp bs (bs.length - r.1) r.1 = bs.length then _ else none) = none then 0 else 1), h8)
          rw [if_neg z, if_pos rfl]; rfl
        · have ht2 : (if skp bs (bs.length - r.1) r.1 = bs.length then some (nrm (if bAt bs (rdK bs : Int) = 45 then -1 else 1) r.2.1 r.2.2) else none) = some t := ht
          rw [if_neg z] at ht2
          cases ht2
