/-! PURE 1: bits of a byte (the rows bt .. bp_b are from the kit's BITS texts), the heap's words, Lines -/
def bt (x : Int32) (i : Nat) : Bool := x.toBitVec.getLsbD i
theorem b_ext {x y : Int32} (h : ∀ i, i < 32 → bt x i = bt y i) : x = y := Int32.toBitVec_inj.mp (BitVec.eq_of_getLsbD_eq (fun i hi => h i hi))
theorem b_and (x y : Int32) (i : Nat) : bt (x &&& y) i = (bt x i && bt y i) := by unfold bt; rw [Int32.toBitVec_and, BitVec.getLsbD_and]
theorem b_big {x : Int32} {i : Nat} (h : 32 ≤ i) : bt x i = false := BitVec.getLsbD_of_ge _ _ h
theorem b_255 (i : Nat) : bt 255 i = decide (i < 8) := by
  rcases Nat.lt_or_ge i 32 with h | h
  · exact (by decide +kernel : ∀ i, i < 32 → bt 255 i = decide (i < 8)) i h
  · rw [b_big h, decide_eq_false (by omega)]
theorem s_l : ∀ n, n < 32 → ((nI n &&& 31).toBitVec.smod 32).toNat = n := by decide +kernel
theorem s_u : ∀ n, n < 32 → (((nI n).toUInt32 &&& Int32.toUInt32 31).toBitVec % 32).toNat = n := by decide +kernel
theorem b_ushr (n : Nat) (hn : n < 32) (x : Int32) (i : Nat) : bt ((x.toUInt32 >>> ((nI n).toUInt32 &&& Int32.toUInt32 31)).toInt32) i = bt x (n + i) := by
  show (x.toUInt32 >>> ((nI n).toUInt32 &&& Int32.toUInt32 31)).toBitVec.getLsbD i = x.toUInt32.toBitVec.getLsbD (n + i)
  rw [UInt32.toBitVec_shiftRight]
  show (x.toUInt32.toBitVec >>> (((nI n).toUInt32 &&& Int32.toUInt32 31).toBitVec % 32).toNat).getLsbD i = _
  rw [s_u n hn, BitVec.getLsbD_ushiftRight]
theorem b_sshr (n : Nat) (hn : n < 32) (x : Int32) {i : Nat} (hi : i < 32) : bt (x >>> (nI n &&& 31)) i = if n + i < 32 then bt x (n + i) else bt x 31 := by
  unfold bt
  rw [Int32.toBitVec_shiftRight]
  show (x.toBitVec.sshiftRight ((nI n &&& 31).toBitVec.smod 32).toNat).getLsbD i = _
  rw [s_l n hn, BitVec.getLsbD_sshiftRight, BitVec.msb_eq_getLsbD_last]
  simp [hi]
theorem bp_b (x : Int32) : x.toInt8.toInt32 &&& 255 = x &&& 255 := by
  apply Int32.toBitVec_inj.mp
  rw [Int32.toBitVec_and, Int32.toBitVec_and, Int8.toBitVec_toInt32, Int32.toBitVec_toInt8]
  apply BitVec.eq_of_getLsbD_eq
  intro i hi
  rw [BitVec.getLsbD_and, BitVec.getLsbD_and]
  have hm : ∀ i < 32, 8 ≤ i → (255 : Int32).toBitVec.getLsbD i = false := by decide
  rcases Nat.lt_or_ge i 8 with z | z
  · rw [BitVec.getLsbD_signExtend, BitVec.getLsbD_signExtend, if_pos z, if_pos hi]
    simp only [z, hi, decide_true, Bool.true_and]
  · rw [hm i hi z]; simp
/-- the byte of v at the shift n, the unsigned and the signed way -/
theorem by_ush (n : Nat) (hn : n ≤ 24) (v : Int32) : ((v.toUInt32 >>> ((nI n).toUInt32 &&& Int32.toUInt32 31)).toInt32) &&& 255 = (v >>> (nI n &&& 31)) &&& 255 := by
  apply b_ext
  intro i hi
  rw [b_and, b_and, b_255]
  rcases Nat.lt_or_ge i 8 with h | h
  · rw [b_ushr n (by omega), b_sshr n (by omega) v hi, if_pos (by omega)]
  · simp [Nat.not_lt.mpr h]
def bN (v : Int32) (n : Nat) : Nat := (v >>> (nI n &&& 31)).toBitVec.toNat % 256
theorem bN_lt (v : Int32) (n : Nat) : bN v n < 256 := Nat.mod_lt _ (by decide)
theorem and255 (x : Int32) : x &&& 255 = iI ((x.toBitVec.toNat % 256 : Nat) : Int) := by
  rw [pk_and x (m := 255) 8 (by decide), iI_nat]
theorem bN_s (v : Int32) (n : Nat) : (v >>> (nI n &&& 31)) &&& 255 = iI (bN v n : Int) := and255 _
theorem bN_u (v : Int32) (n : Nat) (hn : n ≤ 24) : ((v.toUInt32 >>> ((nI n).toUInt32 &&& Int32.toUInt32 31)).toInt32) &&& 255 = iI (bN v n : Int) := by
  rw [by_ush n hn, bN_s]
theorem by_st (x : Int32) : (vp_nar .byte (x.toInt8.toInt32)) &&& 255 = x &&& 255 := by
  rw [vp_nar_byte, bp_b, bp_b]
/-- the four bytes of an int, the highest first -/
def four (v : Int32) : List Nat := [bN v 24, bN v 16, bN v 8, bN v 0]
-- ===== the heap =====
theorem up2_s (h : Hp) (i k : Nat) (v : Int32) : up2 h i k v i k = v := by simp [up2, upd]
theorem up2_k (h : Hp) (i : Nat) {k l : Nat} (v : Int32) (hl : l ≠ k) : up2 h i k v i l = h i l := by simp [up2, upd, hl]
theorem up2_o (h : Hp) {i j : Nat} (k l : Nat) (v : Int32) (hj : j ≠ i) : up2 h i k v j l = h j l := by simp [up2, hj]
theorem iI_lit (n : Nat) : (OfNat.ofNat n : Int32) = iI ((n : Nat) : Int) := iI_ofNat n
theorem i0 : (0 : Int32) = iI 0 := rfl
theorem i1 : (1 : Int32) = iI 1 := rfl
theorem im1 : (-1 : Int32) = iI (-1) := by decide +kernel
/-- only the cells a and b have changed -/
def kp (h h' : Hp) (a b : Nat) : Prop := ∀ j, j ≠ a → j ≠ b → h' j = h j
theorem kp_r (h : Hp) (a b : Nat) : kp h h a b := fun _ _ _ => rfl
theorem kp_t {h h1 h2 : Hp} {a b : Nat} (x : kp h h1 a b) (y : kp h1 h2 a b) : kp h h2 a b := fun j p q => (y j p q).trans (x j p q)
theorem bl_le (j : Nat) : bl j ≤ 240 := by unfold bl; split <;> omega
theorem bl_ge (j : Nat) : 200 ≤ bl j := by unfold bl; split <;> omega
theorem il_le (j : Nat) : il j ≤ 13000 := by unfold il; repeat (first | omega | split)
theorem gD_l {a b : List Nat} {k : Nat} (h : k < a.length) : (a ++ b).getD k 0 = a.getD k 0 := by simp [List.getD_eq_getElem?_getD, List.getElem?_append_left h]
theorem gD_r {a b : List Nat} {k : Nat} (h : a.length ≤ k) : (a ++ b).getD k 0 = b.getD (k - a.length) 0 := by simp [List.getD_eq_getElem?_getD, List.getElem?_append_right h]
theorem gD_t {a : List Nat} {k n : Nat} (h : k < n) : (a.take n).getD k 0 = a.getD k 0 := by simp [List.getD_eq_getElem?_getD, List.getElem?_take, h]
theorem take_s {a : List Nat} {k : Nat} (h : k < a.length) : a.take (k + 1) = a.take k ++ [a.getD k 0] := by
  rw [List.take_add_one]
  simp [List.getD_eq_getElem?_getD, List.getElem?_eq_getElem h]
theorem in32 (v : Int32) : ∃ z : Int, v = iI z ∧ bI z := ⟨v.toInt, iI_of v, by have h1 := v.le_toInt; have h2 := v.toInt_lt; omega⟩
-- ===== Lines =====
def isL (h : Hp) (i : Nat) (bs : List Nat) : Prop := h i 1 = iI (bs.length : Int) ∧ bs.length ≤ bl (i + 1) ∧ (∀ k, k < bs.length → bs.getD k 0 < 256) ∧ ∀ k, k < bs.length → h (i + 1) k &&& 255 = iI (bs.getD k 0 : Int)
theorem isL_eq {h h' : Hp} {i : Nat} {bs : List Nat} (H : isL h i bs) (e1 : h' i = h i) (e2 : h' (i + 1) = h (i + 1)) : isL h' i bs := by
  obtain ⟨h1, h2, h3, h4⟩ := H
  exact ⟨by rw [e1]; exact h1, h2, h3, fun k hk => by rw [e2]; exact h4 k hk⟩
theorem L_add {h : Hp} {i : Nat} {bs : List Nat} {v : Int32} {b : Nat} (H : isL h i bs) (hl : bs.length < bl (i + 1)) (hv : v &&& 255 = iI (b : Int)) (hb : b < 256) : ∃ h', f_L_add i v h = some ((), h') ∧ isL h' i (bs ++ [b]) ∧ kp h h' i (i + 1) := by
  obtain ⟨h1, h2, h3, h4⟩ := H
  have hbl := bl_le (i + 1)
  have hne : i ≠ i + 1 := by omega
  unfold f_L_add
  rw [up2_o _ _ _ _ hne, h1]
  simp (disch := omega) only [iI_lit, iI_add, iI_lt, iI_le, iI_ofNat, iI_cl]
  rw [if_neg (by omega), if_neg (by omega), chk_t (iI_inR (by omega) (by omega) (by omega))]
  refine ⟨_, rfl, ⟨?_, ?_, ?_, ?_⟩, ?_⟩
  · rw [up2_s, List.length_append]
    simp
  · rw [List.length_append]
    simp
    omega
  · intro k hk
    rw [List.length_append] at hk
    simp at hk
    by_cases q : k < bs.length
    · rw [gD_l q]
      exact h3 k q
    · rw [gD_r (by omega), show k - bs.length = 0 by omega]
      exact hb
  · intro k hk
    rw [List.length_append] at hk
    simp at hk
    rw [up2_o _ _ _ _ (fun z => hne z.symm), Int.toNat_natCast]
    by_cases q : k < bs.length
    · rw [gD_l q, up2_k _ _ _ (by omega)]
      exact h4 k q
    · rw [gD_r (by omega), show k = bs.length by omega, up2_s, by_st, hv]
      simp
  · intro j p q
    rw [up2_ne _ _ _ p, up2_ne _ _ _ q]
/-- the byte at a place; -1 where there is none -/
def bAt (bs : List Nat) (z : Int) : Int := if 0 ≤ z ∧ z < bs.length then (bs.getD z.toNat 0 : Int) else -1
theorem L_byteAt {h : Hp} {i : Nat} {bs : List Nat} {z : Int} (H : isL h i bs) (hz : bI z) : f_L_byteAt i (iI z) h = some (iI (bAt bs z), h) := by
  obtain ⟨h1, h2, h3, h4⟩ := H
  have hbl := bl_le (i + 1)
  unfold f_L_byteAt bAt
  rw [h1]
  simp (disch := omega) only [iI_lit, iI_neg, iI_lt, iI_le, iI_ofNat]
  by_cases c1 : z < 0
  · rw [if_pos (by omega), if_neg (by omega)]
    rfl
  · rw [if_neg (by omega)]
    by_cases c2 : z < bs.length
    · rw [if_neg (by omega), if_pos (by omega), chk_t (iI_inR (by omega) (by omega) (by omega)), iI_cl (by omega) (by omega), if_pos (by omega), ← iI_lit 255, h4 z.toNat (by omega)]
    · rw [if_pos (by omega), if_neg (by omega)]
      rfl
theorem bAt_in {bs : List Nat} {k : Nat} (h : k < bs.length) : bAt bs (k : Int) = (bs.getD k 0 : Int) := by
  unfold bAt
  rw [if_pos (by omega), Int.toNat_natCast]
theorem byte_of {b : Nat} (hb : b < 256) : iI (b : Int) &&& 255 = iI (b : Int) := by
  rw [and255, show iI (b : Int) = nI b from (iI_nat b).symm, pk_tn (by omega), Nat.mod_eq_of_lt hb, iI_nat]
theorem L_copy_loop {i j : Nat} {bs : List Nat} (hij : i ≠ j) (hij1 : i ≠ j + 1) (hij2 : i + 1 ≠ j) : ∀ (m k n : Nat) (h : Hp), k + m = bs.length → m < n → isL h i (bs.take k) → isL h j bs → bs.length ≤ bl (i + 1) → ∃ h', f_L_copy_7 n i j (iI (k : Int)) h = some ((), h') ∧ isL h' i bs ∧ kp h h' i (i + 1) := by
  intro m
  induction m with
  | zero =>
    intro k n h hk hn Hi Hj hl
    obtain ⟨n, rfl⟩ : ∃ q, n = q + 1 := ⟨n - 1, by omega⟩
    have hbl := bl_le (j + 1)
    have h2 := Hj.2.1
    rw [f_L_copy_7, Hj.1, if_pos (by rw [iI_le ⟨by omega, by omega⟩ ⟨by omega, by omega⟩]; omega)]
    refine ⟨h, rfl, ?_, kp_r _ _ _⟩
    rwa [List.take_of_length_le (by omega)] at Hi
  | succ m ih =>
    intro k n h hk hn Hi Hj hl
    obtain ⟨n, rfl⟩ : ∃ q, n = q + 1 := ⟨n - 1, by omega⟩
    have hbl := bl_le (j + 1)
    have h2 := Hj.2.1
    have hkl : k < bs.length := by omega
    rw [f_L_copy_7, Hj.1, if_neg (by rw [iI_le ⟨by omega, by omega⟩ ⟨by omega, by omega⟩]; omega), bd_t (L_byteAt Hj ⟨by omega, by omega⟩), bAt_in hkl]
    obtain ⟨h1, e1, H1, K1⟩ := L_add (v := iI ((bs.getD k 0 : Nat) : Int)) (b := bs.getD k 0) Hi (by rw [List.length_take]; omega) (byte_of (Hj.2.2.1 k hkl)) (Hj.2.2.1 k hkl)
    rw [bd_t e1, i1, iI_add]
    rw [← take_s hkl] at H1
    obtain ⟨h', e', H', K'⟩ := ih (k + 1) n h1 (by omega) (by omega) H1 (isL_eq Hj (K1 j (fun z => hij z.symm) (fun z => hij2 z.symm)) (K1 (j + 1) (fun z => hij1 z.symm) (by omega))) hl
    exact ⟨h', by rw [← e']; congr 1, H', kp_t K1 K'⟩
theorem isL_nil {h : Hp} {i : Nat} : isL (up2 h i 1 0) i [] := ⟨by rw [up2_s]; rfl, Nat.zero_le _, fun k hk => absurd hk (Nat.not_lt_zero k), fun k hk => absurd hk (Nat.not_lt_zero k)⟩
theorem kp_up (h : Hp) (i b k : Nat) (v : Int32) : kp h (up2 h i k v) i b := fun j p _ => up2_ne h k v p
theorem L_copy {h : Hp} {i j : Nat} {bs : List Nat} (hij : i ≠ j) (hij1 : i ≠ j + 1) (hij2 : i + 1 ≠ j) (Hj : isL h j bs) (hl : bs.length ≤ bl (i + 1)) : ∃ h', f_L_copy i j h = some ((), h') ∧ isL h' i bs ∧ kp h h' i (i + 1) := by
  have hbl := bl_le (j + 1)
  have h2 := Hj.2.1
  obtain ⟨h', e, H, K⟩ := L_copy_loop hij hij1 hij2 bs.length 0 fuel (up2 h i 1 0) (by omega) (by unfold fuel; omega) (by rw [List.take_zero]; exact isL_nil) (isL_eq Hj (up2_ne h 1 0 (fun z => hij z.symm)) (up2_ne h 1 0 (fun z => hij1 z.symm))) hl
  exact ⟨h', e, H, kp_t (kp_up _ _ _ _ _) K⟩
theorem L_addInt {h : Hp} {i : Nat} {bs : List Nat} {v : Int32} (H : isL h i bs) (hl : bs.length + 4 ≤ bl (i + 1)) : ∃ h', f_L_addInt i v h = some ((), h') ∧ isL h' i (bs ++ four v) ∧ kp h h' i (i + 1) := by
  obtain ⟨h1, e1, H1, K1⟩ := L_add (v := (v.toUInt32 >>> ((nI 24).toUInt32 &&& Int32.toUInt32 31)).toInt32) H (by omega) (bN_u v 24 (by decide)) (bN_lt v 24)
  obtain ⟨h2, e2, H2, K2⟩ := L_add (v := (v.toUInt32 >>> ((nI 16).toUInt32 &&& Int32.toUInt32 31)).toInt32) H1 (by rw [List.length_append]; simp; omega) (bN_u v 16 (by decide)) (bN_lt v 16)
  obtain ⟨h3, e3, H3, K3⟩ := L_add (v := (v.toUInt32 >>> ((nI 8).toUInt32 &&& Int32.toUInt32 31)).toInt32) H2 (by rw [List.length_append, List.length_append]; simp; omega) (bN_u v 8 (by decide)) (bN_lt v 8)
  obtain ⟨h4, e4, H4, K4⟩ := L_add (v := (v.toUInt32 >>> ((nI 0).toUInt32 &&& Int32.toUInt32 31)).toInt32) H3 (by rw [List.length_append, List.length_append, List.length_append]; simp; omega) (bN_u v 0 (by decide)) (bN_lt v 0)
  refine ⟨h4, ?_, ?_, kp_t (kp_t (kp_t K1 K2) K3) K4⟩
  · unfold f_L_addInt
    rw [show fuel = 999995 + 1 + 1 + 1 + 1 + 1 from rfl, f_L_addInt_3, if_neg (by decide), show (24 : Int32) = nI 24 from rfl, bd_t e1, show nI 24 + (-8) = nI 16 by decide, f_L_addInt_3, if_neg (by decide), bd_t e2, show nI 16 + (-8) = nI 8 by decide, f_L_addInt_3, if_neg (by decide), bd_t e3, show nI 8 + (-8) = nI 0 by decide, f_L_addInt_3, if_neg (by decide), bd_t e4, f_L_addInt_3, if_pos (by decide)]
  · have : bs ++ four v = (((bs ++ [bN v 24]) ++ [bN v 16]) ++ [bN v 8]) ++ [bN v 0] := by simp [four]
    rw [this]
    exact H4
