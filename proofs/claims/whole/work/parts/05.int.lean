/-! ints as numbers: iI z; sums and products go through without a bound, comparisons within -2^31 .. 2^31 -/
def iI (z : Int) : Int32 := Int32.ofInt z
abbrev bI (z : Int) : Prop := -2147483648 ≤ z ∧ z < 2147483648
theorem iI_toInt {z : Int} (h : bI z) : (iI z).toInt = z := Int32.toInt_ofInt_of_le (by have := h.1; omega) (by have := h.2; omega)
theorem iI_of (x : Int32) : x = iI x.toInt := (Int32.ofInt_toInt x).symm
theorem iI_nat (n : Nat) : nI n = iI (n : Int) := Int32.ofInt_eq_ofNat.symm
theorem iI_ofNat (n : Nat) : Int32.ofNat n = iI (n : Int) := Int32.ofInt_eq_ofNat.symm
theorem iI_add (a b : Int) : iI a + iI b = iI (a + b) := by
  apply Int32.toInt_inj.mp
  simp [iI]
theorem iI_sub (a b : Int) : iI a - iI b = iI (a - b) := by
  apply Int32.toInt_inj.mp
  simp [iI]
theorem iI_mul (a b : Int) : iI a * iI b = iI (a * b) := by
  apply Int32.toInt_inj.mp
  simp [iI]
theorem iI_neg (a : Int) : -iI a = iI (-a) := by
  apply Int32.toInt_inj.mp
  simp [iI]
theorem iI_lt {a b : Int} (ha : bI a) (hb : bI b) : iI a < iI b ↔ a < b := by
  rw [Int32.lt_iff_toInt_lt, iI_toInt ha, iI_toInt hb]
theorem iI_le {a b : Int} (ha : bI a) (hb : bI b) : iI a ≤ iI b ↔ a ≤ b := by
  rw [Int32.le_iff_toInt_le, iI_toInt ha, iI_toInt hb]
theorem iI_eq {a b : Int} (ha : bI a) (hb : bI b) : iI a = iI b ↔ a = b := by
  rw [← Int32.toInt_inj, iI_toInt ha, iI_toInt hb]
theorem iI_cl {a : Int} (h0 : 0 ≤ a) (h1 : a < 2147483648) : (iI a).toNatClampNeg = a.toNat := by
  rw [show (iI a).toNatClampNeg = (iI a).toInt.toNat from rfl, iI_toInt ⟨by omega, h1⟩]
theorem iI_inR {a : Int} {n : Nat} (h0 : 0 ≤ a) (h1 : a < (n : Int)) (hn : n < 2147483648) : inR (iI a) n := by
  refine ⟨?_, ?_⟩
  · rw [show (0 : Int32) = iI 0 from rfl, iI_lt ⟨by omega, by omega⟩ ⟨by omega, by omega⟩]
    omega
  · rw [iI_cl h0 (by omega)]
    omega
theorem iI_div {a b : Int} (ha : 0 ≤ a) (ha2 : a < 2147483648) (hb : 0 < b) (hb2 : b < 2147483648) : iI a / iI b = iI (a / b) := by
  apply Int32.toInt_inj.mp
  rw [Int32.toInt_div_of_ne_right _ _ (fun q => by
    have := congrArg Int32.toInt q
    rw [iI_toInt ⟨by omega, by omega⟩] at this
    have h2 : (-1 : Int32).toInt = -1 := by decide
    omega), iI_toInt ⟨by omega, by omega⟩, iI_toInt ⟨by omega, by omega⟩, iI_toInt, Int.tdiv_eq_ediv_of_nonneg ha]
  have h1 := Int.ediv_nonneg ha (by omega : 0 ≤ b)
  have h2 := Int.ediv_le_self b ha
  exact ⟨by omega, by omega⟩
