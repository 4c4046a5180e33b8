/-! PURE 4: how many digits, which digit, rounding -/
def ndf : Nat → Nat → Nat
  | 0, _ => 0
  | f + 1, c => if c = 0 then 0 else ndf f (c / 10) + 1
/-- how many digits a number has: none if it is 0 -/
def nd (c : Nat) : Nat := ndf c c
theorem ndf_spec : ∀ f c, c ≤ f → 0 < c → 0 < ndf f c ∧ 10 ^ (ndf f c - 1) ≤ c ∧ c < 10 ^ ndf f c := by
  intro f
  induction f with
  | zero => intro c h1 h2; omega
  | succ f ih =>
    intro c h1 h2
    have e : ndf (f + 1) c = ndf f (c / 10) + 1 := by rw [ndf, if_neg (by omega)]
    rw [e]
    by_cases h : c / 10 = 0
    · have e0 : ndf f (c / 10) = 0 := by
        rw [h]
        cases f with
        | zero => rfl
        | succ f => rw [ndf, if_pos rfl]
      rw [e0]
      exact ⟨by omega, by simp; omega, by simp; omega⟩
    · obtain ⟨a, b, d⟩ := ih (c / 10) (by omega) (by omega)
      refine ⟨by omega, ?_, ?_⟩
      · have : ndf f (c / 10) + 1 - 1 = (ndf f (c / 10) - 1) + 1 := by omega
        rw [this, Nat.pow_succ]
        omega
      · rw [Nat.pow_succ]
        omega
theorem nd_0 : nd 0 = 0 := rfl
theorem nd_pos {c : Nat} (h : 0 < c) : 0 < nd c := (ndf_spec c c (Nat.le_refl _) h).1
theorem nd_le {c : Nat} (h : 0 < c) : 10 ^ (nd c - 1) ≤ c := (ndf_spec c c (Nat.le_refl _) h).2.1
theorem nd_lt (c : Nat) : c < 10 ^ nd c := by
  rcases Nat.eq_zero_or_pos c with rfl | h
  · decide
  · exact (ndf_spec c c (Nat.le_refl _) h).2.2
theorem nd_eq {c n : Nat} (hn : 0 < n) (h1 : 10 ^ (n - 1) ≤ c) (h2 : c < 10 ^ n) : nd c = n := by
  have hc : 0 < c := Nat.lt_of_lt_of_le (p10 _) h1
  have a := pow_size (nd_le hc) h2 (nd_pos hc)
  have b := pow_size h1 (nd_lt c) hn
  omega
theorem nd_z {c : Nat} (h : nd c = 0) : c = 0 := by
  rcases Nat.eq_zero_or_pos c with h0 | h0
  · exact h0
  · have := nd_pos h0
    omega
theorem nd_le_of {c n : Nat} (h : c < 10 ^ n) : nd c ≤ n := by
  rcases Nat.eq_zero_or_pos c with rfl | h0
  · exact Nat.zero_le _
  · exact pow_size (nd_le h0) h (nd_pos h0)
theorem nd_mono {a b : Nat} (h : a ≤ b) : nd a ≤ nd b := nd_le_of (Nat.lt_of_le_of_lt h (nd_lt b))
theorem nd_push {c d : Nat} (hd : d < 10) (h : 0 < c ∨ 0 < d) : nd (10 * c + d) = nd c + 1 := by
  rcases Nat.eq_zero_or_pos c with rfl | h0
  · apply nd_eq (by omega)
    · rw [nd_0]
      simp
      omega
    · rw [nd_0]
      simp
      omega
  · have a := nd_le h0
    have b := nd_lt c
    have p := nd_pos h0
    apply nd_eq (by omega)
    · have e : nd c + 1 - 1 = (nd c - 1) + 1 := by omega
      rw [e, Nat.pow_succ]
      omega
    · rw [Nat.pow_succ]
      omega
theorem nd_mulp {c : Nat} (h : 0 < c) (k : Nat) : nd (c * 10 ^ k) = nd c + k := by
  have a := nd_le h
  have b := nd_lt c
  have p := nd_pos h
  apply nd_eq (by omega)
  · have e : nd c + k - 1 = (nd c - 1) + k := by omega
    rw [e, Nat.pow_add]
    exact Nat.mul_le_mul_right _ a
  · rw [Nat.pow_add]
    exact Nat.mul_lt_mul_of_pos_right b (p10 k)
theorem nd_divp {c k : Nat} (h : k < nd c) : nd (c / 10 ^ k) = nd c - k := by
  have h0 : 0 < c := by
    rcases Nat.eq_zero_or_pos c with rfl | q
    · rw [nd_0] at h; omega
    · exact q
  have a := nd_le h0
  have b := nd_lt c
  apply nd_eq (by omega)
  · rw [Nat.le_div_iff_mul_le (p10 k), ← Nat.pow_add, show nd c - k - 1 + k = nd c - 1 by omega]
    exact a
  · rw [Nat.div_lt_iff_lt_mul (p10 k), ← Nat.pow_add, show nd c - k + k = nd c by omega]
    exact b
/-- the k-th digit from the top, of a number taken to have n digits -/
def dg (c n k : Nat) : Nat := c / 10 ^ (n - 1 - k) % 10
theorem dg_lt (c n k : Nat) : dg c n k < 10 := Nat.mod_lt _ (by decide)
theorem div_pp (c a b : Nat) : c / 10 ^ a / 10 ^ b = c / 10 ^ (a + b) := by rw [Nat.div_div_eq_div_mul, Nat.pow_add]
theorem dg_push {c d n k : Nat} (hd : d < 10) (hk : k < n) : dg (10 * c + d) (n + 1) k = dg c n k := by
  unfold dg
  rw [show n + 1 - 1 - k = 1 + (n - 1 - k) by omega, ← div_pp]
  congr 2
  simp
  omega
theorem dg_last {c n : Nat} (hn : 0 < n) : dg c n (n - 1) = c % 10 := by
  unfold dg
  rw [show n - 1 - (n - 1) = 0 by omega]
  simp
/-- digits by a function: each is the number's -/
theorem dv_dg {f : Nat → Nat} {n k : Nat} (hk : k < n) (hf : ∀ j, j < n → f j < 10) : f k = dg (dv f n) n k := by
  unfold dg
  have e := dv_trunc (d := f) (m := k + 1) (n := n) (by omega) hf
  rw [show n - 1 - k = n - (k + 1) by omega, ← e, dv_s]
  have := hf k hk
  omega
theorem dg_dv (c : Nat) : ∀ n, dv (dg c n) n = c % 10 ^ n := by
  have key : ∀ n m, m ≤ n → dv (dg c n) m = c / 10 ^ (n - m) % 10 ^ m := by
    intro n m
    induction m with
    | zero => intro _; simp [dv_0, Nat.mod_one]
    | succ m ih =>
      intro h
      rw [dv_s, ih (by omega)]
      unfold dg
      rw [show n - 1 - m = n - (m + 1) by omega, show n - m = (n - (m + 1)) + 1 by omega, ← div_pp, show 10 ^ (m + 1) = 10 * 10 ^ m by rw [Nat.pow_succ, Nat.mul_comm]]
      generalize c / 10 ^ (n - (m + 1)) = x
      rw [Nat.mod_mul, Nat.pow_one]
      omega
  intro n
  rw [key n n (Nat.le_refl _), Nat.sub_self]
  simp
theorem dg_dv_nd (c : Nat) : dv (dg c (nd c)) (nd c) = c := by rw [dg_dv, Nat.mod_eq_of_lt (nd_lt c)]
/-- rounding to n digits, half up: coefficient and exponent -/
def rup (c k : Nat) : Nat := c / 10 ^ k + (if 5 ≤ c / 10 ^ (k - 1) % 10 then 1 else 0)
def rnd (n c : Nat) (e : Int) : Nat × Int := if nd c ≤ n then (c, e) else if rup c (nd c - n) = 10 ^ n then (10 ^ (n - 1), e + (nd c - n : Nat) + 1) else (rup c (nd c - n), e + (nd c - n : Nat))
theorem rup_le {n c : Nat} (hn : 0 < n) (h : n < nd c) : 10 ^ (n - 1) ≤ rup c (nd c - n) ∧ rup c (nd c - n) ≤ 10 ^ n := by
  have e := nd_divp (c := c) (k := nd c - n) (by omega)
  have h0 : 0 < c / 10 ^ (nd c - n) := by
    rcases Nat.eq_zero_or_pos (c / 10 ^ (nd c - n)) with q | q
    · rw [q, nd_0] at e; omega
    · exact q
  have a := nd_le h0
  have b := nd_lt (c / 10 ^ (nd c - n))
  rw [e, show nd c - (nd c - n) = n by omega] at a b
  unfold rup
  split <;> omega
theorem rnd_nd {n c : Nat} {e : Int} (hn : 0 < n) : nd (rnd n c e).1 ≤ n := by
  unfold rnd
  split
  · assumption
  · rename_i h
    have q := rup_le hn (by omega : n < nd c)
    split
    · apply nd_le_of
      exact Nat.pow_lt_pow_right (by decide) (by omega)
    · apply nd_le_of
      omega
theorem rnd_pos {n c : Nat} {e : Int} (hn : 0 < n) (hc : 0 < c) : 0 < (rnd n c e).1 := by
  unfold rnd
  split
  · exact hc
  · rename_i h
    have q := rup_le hn (by omega : n < nd c)
    have := p10 (n - 1)
    split
    · exact this
    · show 0 < rup c (nd c - n); omega
theorem rnd_0 {n : Nat} {e : Int} : rnd n 0 e = (0, e) := by
  unfold rnd
  rw [if_pos (by rw [nd_0]; exact Nat.zero_le _)]
theorem rnd_same {n c : Nat} {e : Int} (h : nd c ≤ n) : rnd n c e = (c, e) := if_pos h
