/-! numbers by digits: dv the highest first, le the lowest first -/
def dv (d : Nat → Nat) : Nat → Nat
  | 0 => 0
  | n + 1 => dv d n * 10 + d n
def le (c : Nat → Nat) : Nat → Nat
  | 0 => 0
  | n + 1 => le c n + c n * 10 ^ n
theorem dv_0 (d : Nat → Nat) : dv d 0 = 0 := rfl
theorem dv_s (d : Nat → Nat) (n : Nat) : dv d (n + 1) = dv d n * 10 + d n := rfl
theorem le_s (c : Nat → Nat) (n : Nat) : le c (n + 1) = le c n + c n * 10 ^ n := rfl
theorem dv_congr {d d' : Nat → Nat} : ∀ {n : Nat}, (∀ k, k < n → d k = d' k) → dv d n = dv d' n
  | 0, _ => rfl
  | n + 1, h => by rw [dv_s, dv_s, dv_congr (fun k hk => h k (by omega)), h n (by omega)]
theorem le_congr {d d' : Nat → Nat} : ∀ {n : Nat}, (∀ k, k < n → d k = d' k) → le d n = le d' n
  | 0, _ => rfl
  | n + 1, h => by rw [le_s, le_s, le_congr (fun k hk => h k (by omega)), h n (by omega)]
theorem p10 (n : Nat) : 0 < 10 ^ n := Nat.pow_pos (by decide)
theorem dv_lt {d : Nat → Nat} : ∀ {n : Nat}, (∀ k, k < n → d k < 10) → dv d n < 10 ^ n
  | 0, _ => Nat.one_pos
  | n + 1, h => by
    have h1 := dv_lt (d := d) (n := n) (fun k hk => h k (by omega))
    have h2 := h n (by omega)
    rw [dv_s, Nat.pow_succ]
    omega
theorem dv_add (d : Nat → Nat) (a : Nat) : ∀ b : Nat, dv d (a + b) = dv d a * 10 ^ b + dv (fun k => d (a + k)) b
  | 0 => by simp [dv_0]
  | b + 1 => by
    rw [← Nat.add_assoc, dv_s, dv_add d a b, dv_s, Nat.pow_succ, Nat.add_mul, Nat.mul_assoc, Nat.add_assoc]
theorem dv_trunc {d : Nat → Nat} {m n : Nat} (h : m ≤ n) (hd : ∀ k, k < n → d k < 10) : dv d m = dv d n / 10 ^ (n - m) := by
  obtain ⟨b, rfl⟩ : ∃ b, n = m + b := ⟨n - m, by omega⟩
  rw [dv_add, Nat.add_sub_cancel_left]
  have h1 : dv (fun k => d (m + k)) b < 10 ^ b := dv_lt (fun k hk => hd (m + k) (by omega))
  rw [Nat.mul_comm, Nat.mul_add_div (p10 b), Nat.div_eq_of_lt h1]
  rfl
theorem dv_pos {d : Nat → Nat} {n : Nat} (hn : 0 < n) (h0 : d 0 ≠ 0) : 10 ^ (n - 1) ≤ dv d n := by
  obtain ⟨b, rfl⟩ : ∃ b, n = 1 + b := ⟨n - 1, by omega⟩
  rw [dv_add, Nat.add_sub_cancel_left]
  have h1 : dv d 1 = d 0 := by simp [dv]
  rw [h1]
  have : 1 * 10 ^ b ≤ d 0 * 10 ^ b := Nat.mul_le_mul_right _ (by omega)
  omega
theorem dv_z {d : Nat → Nat} : ∀ {n : Nat}, (∀ k, k < n → d k = 0) → dv d n = 0
  | 0, _ => rfl
  | n + 1, h => by rw [dv_s, dv_z (fun k hk => h k (by omega)), h n (by omega)]
theorem le_lt {c : Nat → Nat} : ∀ {n : Nat}, (∀ k, k < n → c k < 10) → le c n < 10 ^ n
  | 0, _ => Nat.one_pos
  | n + 1, h => by
    have h1 := le_lt (c := c) (n := n) (fun k hk => h k (by omega))
    have h2 : c n * 10 ^ n ≤ 9 * 10 ^ n := Nat.mul_le_mul_right _ (by have := h n (by omega); omega)
    rw [le_s, Nat.pow_succ]
    omega
/-- lowest first is highest first read backwards -/
theorem le_dv (c : Nat → Nat) : ∀ n : Nat, le c n = dv (fun k => c (n - 1 - k)) n
  | 0 => rfl
  | n + 1 => by
    have e : n + 1 = 1 + n := by omega
    rw [le_s, le_dv c n, show dv (fun k => c (n + 1 - 1 - k)) (n + 1) = dv (fun k => c (n + 1 - 1 - k)) (1 + n) by rw [e], dv_add]
    have h1 : dv (fun k => c (n + 1 - 1 - k)) 1 = c n := by simp [dv]
    rw [h1, Nat.add_comm]
    congr 1
    apply dv_congr
    intro k hk
    show c (n - 1 - k) = c (n + 1 - 1 - (1 + k))
    congr 1
    omega
/-- sizes tell how many digits -/
theorem pow_size {a b c : Nat} (h1 : 10 ^ (a - 1) ≤ c) (h2 : c < 10 ^ b) (ha : 0 < a) : a ≤ b := by
  rcases Nat.lt_or_ge b a with h | h
  · exfalso
    have : 10 ^ b ≤ 10 ^ (a - 1) := Nat.pow_le_pow_right (by decide) (by omega)
    omega
  · exact h
