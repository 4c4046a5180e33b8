/-! PURE 8: the reference's numbers: copy, high, digit, round, noZeros -/
theorem ixN (z k : Nat) : (2600 : Int32) * iI (z : Int) + iI (k : Int) = iI ((2600 * z + k : Nat) : Int) := by rw [ixz]; congr 1
theorem ixR {z k : Nat} (hz : z < 5) (hk : k < 2600) : inR (iI ((2600 * z + k : Nat) : Int)) 13000 := iI_inR (by omega) (by omega) (by omega)
theorem clN {n : Nat} (h : n < 2147483648) : (iI (n : Int)).toNatClampNeg = n := by rw [iI_cl (by omega) (by omega), Int.toNat_natCast]
theorem scN (k : Nat) : iI (k : Int) + 1 = iI ((k + 1 : Nat) : Int) := by rw [i1, iI_add]; rfl
theorem pcN (k : Nat) : iI ((k + 1 : Nat) : Int) + (-1) = iI (k : Int) := by rw [im1, iI_add]; congr 1; omega
theorem M_copy_loop {x z c : Nat} (hx : x < 5) (hz : z < 5) (hxz : x ≠ z) (hc : mn c ≤ 2600) : ∀ (m k n : Nat) (h : Hp), k + m = mn c → m < n → h 51 x = iI (mn c : Int) → (∀ q, q < mn c → h 50 (2600 * x + q) = iI (dg c (mn c) q : Int)) → (∀ q, q < k → h 50 (2600 * z + q) = iI (dg c (mn c) q : Int)) → ∃ h', f_M_copy_38 n (iI (x : Int)) (iI (z : Int)) (iI (k : Int)) h = some ((), h') ∧ (∀ q, q < mn c → h' 50 (2600 * z + q) = iI (dg c (mn c) q : Int)) ∧ (∀ y, y ≠ 50 → h' y = h y) ∧ km h h' z := by
  intro m
  induction m with
  | zero =>
    intro k n h hk hn h1 ha hb
    obtain ⟨n, rfl⟩ : ∃ q, n = q + 1 := ⟨n - 1, by omega⟩
    refine ⟨h, ?_, fun q hq => hb q (by omega), fun _ _ => rfl, km_r _ _⟩
    rw [f_M_copy_38, chk_t (inz hx)]
    simp only [clz hx, h1]
    rw [if_pos (by rw [iI_le ⟨by omega, by omega⟩ ⟨by omega, by omega⟩]; omega)]
  | succ m ih =>
    intro k n h hk hn h1 ha hb
    obtain ⟨n, rfl⟩ : ∃ q, n = q + 1 := ⟨n - 1, by omega⟩
    obtain ⟨h', e', a', b', c'⟩ := ih (k + 1) n (up2 h 50 (2600 * z + k) (iI (dg c (mn c) k : Int))) (by omega) (by omega) (by rw [up2_o _ _ _ _ (by omega)]; exact h1) (fun q hq => by rw [up2_k _ _ _ (by omega)]; exact ha q hq) (fun q hq => by
      by_cases t : q = k
      · rw [t, up2_s]
      · rw [up2_k _ _ _ (by omega)]; exact hb q (by omega))
    refine ⟨h', ?_, a', fun y hy => (b' y hy).trans (up2_ne _ _ _ hy), km_t (km_50 _ _ _ _ (by omega)) c'⟩
    rw [f_M_copy_38, chk_t (inz hx)]
    simp only [clz hx, h1, ixN]
    rw [if_neg (by rw [iI_le ⟨by omega, by omega⟩ ⟨by omega, by omega⟩]; omega), chk_t (ixR hx (by omega)), chk_t (ixR hz (by omega)), clN (by omega), clN (by omega), ha k (by omega), scN]
    exact e'
theorem M_copy {h : Hp} {x z c : Nat} {s e : Int} (hx : x < 5) (hz : z < 5) (hxz : x ≠ z) (H : isM h x s c e) : ∃ h', f_M_copy (iI (x : Int)) (iI (z : Int)) h = some ((), h') ∧ isM h' z s c e ∧ km h h' z := by
  obtain ⟨h1, h2, h3, h4, h5⟩ := H
  have hne : x ≠ z := hxz
  let g : Hp := up2 (up2 (up2 h 53 z (iI s)) 51 z (iI (mn c : Int))) 52 z (iI e)
  have kg : km h g z := km_t (km_t (km_53 _ _ _) (km_51 _ _ _)) (km_52 _ _ _)
  obtain ⟨h', e', a', b', c'⟩ := M_copy_loop (c := c) hx hz hxz h4 (mn c) 0 fuel g (by omega) (by unfold fuel; omega) (by rw [(kg.2.1 x hne).1]; exact h1) (fun q hq => by rw [kg.2.2 _ (by omega)]; exact h5 q hq) (fun q hq => by omega)
  refine ⟨h', ?_, ⟨?_, ?_, ?_, h4, a'⟩, km_t kg c'⟩
  · unfold f_M_copy
    rw [chk_t (inz hx), chk_t (inz hz), chk_t (inz hx), chk_t (inz hz), chk_t (inz hx), chk_t (inz hz), clz hx, clz hz, h3, up2_o _ _ _ _ (by omega : (51 : Nat) ≠ 53), h1, up2_o _ _ _ _ (by omega : (52 : Nat) ≠ 51), up2_o _ _ _ _ (by omega : (52 : Nat) ≠ 53), h2]
    exact e'
  · rw [b' 51 (by omega)]
    show up2 _ 52 z _ 51 z = _
    rw [up2_o _ _ _ _ (by omega), up2_s]
  · rw [b' 52 (by omega)]
    show up2 _ 52 z _ 52 z = _
    rw [up2_s]
  · rw [b' 53 (by omega)]
    show up2 _ 52 z _ 53 z = _
    rw [up2_o _ _ _ _ (by omega), up2_o _ _ _ _ (by omega), up2_s]
theorem M_high {h : Hp} {z c : Nat} {s e : Int} (hz : z < 5) (H : isM h z s c e) : f_M_high (iI (z : Int)) h = some (iI ((mn c : Int) - 1 + e), h) := by
  unfold f_M_high
  rw [chk_t (inz hz), chk_t (inz hz), clz hz, H.1, H.2.1, i1, iI_sub, iI_add]
theorem M_digit {h : Hp} {z c : Nat} {s e p : Int} (hz : z < 5) (H : isM h z s c e) (h1 : -1000000000 ≤ p - e) (h2 : p - e ≤ 1000000000) : f_M_digit (iI (z : Int)) (iI p) h = some (iI (dp c e p : Int), h) := by
  have hm := mn_pos c
  have h4 := H.2.2.2.1
  unfold f_M_digit dp
  rw [bd_t (M_high hz H), iI_sub, chk_t (inz hz)]
  simp only [clz hz, H.1]
  by_cases q : (mn c : Int) - 1 + e - p < 0
  · rw [if_pos (by rw [i0, iI_lt ⟨by omega, by omega⟩ ⟨by omega, by omega⟩]; exact q), if_pos (by omega)]
    have : c / 10 ^ (p - e).toNat = 0 := Nat.div_eq_of_lt (Nat.lt_of_lt_of_le (mn_lt c) (Nat.pow_le_pow_right (by decide) (by omega)))
    rw [this]
    rfl
  · rw [if_neg (by rw [i0, iI_lt ⟨by omega, by omega⟩ ⟨by omega, by omega⟩]; exact q)]
    by_cases q2 : e ≤ p
    · rw [if_neg (by rw [iI_le ⟨by omega, by omega⟩ ⟨by omega, by omega⟩]; omega), if_pos q2]
      obtain ⟨k, hk⟩ : ∃ k : Nat, (mn c : Int) - 1 + e - p = k := ⟨((mn c : Int) - 1 + e - p).toNat, by omega⟩
      rw [hk, ixN, chk_t (ixR hz (by omega)), clN (by omega), H.2.2.2.2 k (by omega)]
      unfold dg
      rw [show mn c - 1 - k = (p - e).toNat by omega]
    · rw [if_pos (by rw [iI_le ⟨by omega, by omega⟩ ⟨by omega, by omega⟩]; omega), if_neg q2]
      rfl
theorem isM_of {h : Hp} {z c n : Nat} {f : Nat → Nat} {s e : Int} (h1 : h 51 z = iI (n : Int)) (h2 : h 52 z = iI e) (h3 : h 53 z = iI s) (hl : n ≤ 2600) (hf : ∀ k, k < n → f k < 10) (ha : ∀ k, k < n → h 50 (2600 * z + k) = iI (f k : Int)) (hc : dv f n = c) (hn : mn c = n) : isM h z s c e := by
  subst hc
  refine ⟨by rw [hn]; exact h1, h2, h3, by rw [hn]; exact hl, fun k hk => ?_⟩
  rw [hn] at hk ⊢
  rw [ha k hk, ← dv_dg hk hf]
theorem M_up_loop {z q : Nat} (hz : z < 5) (hq : 0 < q) (hl : nd q ≤ 2600) : ∀ (m n : Nat) (h : Hp) (f : Nat → Nat), m ≤ nd q → m + 1 < n → (∀ k, k < nd q → h 50 (2600 * z + k) = iI (f k : Int)) → (∀ k, k < m → f k = dg q (nd q) k) → (∀ k, m ≤ k → k < nd q → f k = 0 ∧ dg q (nd q) k = 9) → ∃ h' g, f_M_round_62 n (iI (z : Int)) 1 (iI ((m : Int) - 1)) h = some ((), h') ∧ km h h' z ∧ h' 51 = h 51 ∧ h' 53 = h 53 ∧ (∀ k, k < nd q → h' 50 (2600 * z + k) = iI (g k : Int)) ∧ (∀ k, k < nd q → g k < 10) ∧ dv g (nd q) = (if q + 1 = 10 ^ nd q then 10 ^ (nd q - 1) else q + 1) ∧ h' 52 z = (if q + 1 = 10 ^ nd q then h 52 z + 1 else h 52 z) := by
  have hn0 := nd_pos hq
  intro m
  induction m with
  | zero =>
    intro n h f hm hn ha hf hz0
    obtain ⟨n, rfl⟩ : ∃ x, n = x + 1 := ⟨n - 1, by omega⟩
    have e9 := nines (d := dg q (nd q)) (m := 0) (nd q) (fun k _ h2 => (hz0 k (by omega) (by omega)).2)
    rw [Nat.zero_add, dg_dv_nd, dv_0] at e9
    have e10 : q + 1 = 10 ^ nd q := by omega
    rw [f_M_round_62, if_pos (by rw [i0, iI_lt ⟨by omega, by omega⟩ ⟨by omega, by omega⟩]; omega)]
    unfold f_M_round_137
    have e0 : (2600 : Int32) * iI (z : Int) = iI ((2600 * z + 0 : Nat) : Int) := by rw [ix0]; rfl
    rw [if_neg (by decide), e0, chk_t (ixR hz (by omega)), chk_t (inz hz), chk_t (inz hz), clz hz, clN (by omega), up2_o _ _ _ _ (by omega : (52 : Nat) ≠ 50)]
    refine ⟨_, fun k => if k = 0 then 1 else 0, rfl, km_t (km_50 _ _ _ _ (by omega)) (km_52 _ _ _), ?_, ?_, fun k hk => ?_, fun k _ => by show (if k = 0 then 1 else 0) < 10; split <;> omega, ?_, ?_⟩
    · rw [up2_ne _ _ _ (by omega), up2_ne _ _ _ (by omega)]
    · rw [up2_ne _ _ _ (by omega), up2_ne _ _ _ (by omega)]
    · rw [up2_o _ _ _ _ (by omega)]
      by_cases t : k = 0
      · rw [t, up2_s]; rfl
      · rw [up2_k _ _ _ (by omega), ha k hk, (hz0 k (by omega) hk).1]
        show _ = iI (((if k = 0 then 1 else 0 : Nat)) : Int)
        rw [if_neg t]
    · rw [if_pos e10]
      have := dzeros (d := fun k => if k = 0 then 1 else 0) (m := 1) (nd q - 1) (fun k h1 _ => by show (if k = 0 then 1 else 0) = 0; rw [if_neg (by omega)])
      rw [show 1 + (nd q - 1) = nd q by omega] at this
      rw [this]
      simp [dv]
    · rw [if_pos e10, up2_s]
  | succ m ih =>
    intro n h f hm hn ha hf hz0
    obtain ⟨n, rfl⟩ : ∃ x, n = x + 1 := ⟨n - 1, by omega⟩
    have ez : ((m + 1 : Nat) : Int) - 1 = (m : Int) := by omega
    have ep : iI (m : Int) + (-1) = iI ((m : Int) - 1) := by rw [im1, iI_add]; rfl
    rw [ez, f_M_round_62, if_neg (by rw [i0, iI_lt ⟨by omega, by omega⟩ ⟨by omega, by omega⟩]; omega), if_neg (by decide), ixN, chk_t (ixR hz (by omega))]
    simp only [clN (show 2600 * z + m < 2147483648 by omega), ha m (by omega), hf m (by omega)]
    have hd := dg_lt q (nd q) m
    by_cases c9 : dg q (nd q) m = 9
    · rw [if_pos (by rw [c9]; rfl)]
      unfold f_M_round_94
      rw [if_neg (by decide), ixN, chk_t (ixR hz (by omega)), clN (by omega), ep]
      obtain ⟨h', g, e', k', a', b', d', x', y', z'⟩ := ih n (up2 h 50 (2600 * z + m) 0) (fun k => if k = m then 0 else f k) (by omega) (by omega) (fun k hk => by
        by_cases t : k = m
        · rw [t, up2_s]
          show _ = iI (((if m = m then 0 else f m : Nat)) : Int)
          rw [if_pos rfl]; rfl
        · rw [up2_k _ _ _ (by omega), ha k hk]
          show _ = iI (((if k = m then 0 else f k : Nat)) : Int)
          rw [if_neg t]) (fun k hk => by
        show (if k = m then 0 else f k) = _
        rw [if_neg (by omega), hf k (by omega)]) (fun k h2 h3 => by
        show (if k = m then 0 else f k) = 0 ∧ _
        by_cases t : k = m
        · rw [if_pos t, t]
          exact ⟨rfl, c9⟩
        · rw [if_neg t]
          exact hz0 k (by omega) h3)
      refine ⟨h', g, e', km_t (km_50 _ _ _ _ (by omega)) k', a'.trans (up2_ne _ _ _ (by omega)), b'.trans (up2_ne _ _ _ (by omega)), d', x', y', ?_⟩
      rw [z', up2_o _ _ _ _ (by omega)]
    · rw [if_neg (by
        intro t
        have := (iI_eq ⟨by omega, by omega⟩ ⟨by omega, by omega⟩).mp (show iI ((dg q (nd q) m : Nat) : Int) = iI 9 from t)
        omega)]
      unfold f_M_round_94
      rw [if_pos rfl, ixN, chk_t (ixR hz (by omega)), chk_t (ixR hz (by omega)), clN (by omega), ha m (by omega), hf m (by omega), ep, scN]
      have e9 := nines (d := dg q (nd q)) (m := m + 1) (nd q - (m + 1)) (fun k h2 h3 => (hz0 k h2 (by omega)).2)
      rw [show m + 1 + (nd q - (m + 1)) = nd q by omega, dg_dv_nd] at e9
      have ev : dv (fun k => if k = m then dg q (nd q) m + 1 else f k) (nd q) = q + 1 := by
        have e1 := dzeros (d := fun k => if k = m then dg q (nd q) m + 1 else f k) (m := m + 1) (nd q - (m + 1)) (fun k h2 h3 => by
          show (if k = m then _ else f k) = 0
          rw [if_neg (by omega)]
          exact (hz0 k h2 (by omega)).1)
        rw [show m + 1 + (nd q - (m + 1)) = nd q by omega] at e1
        have e2 : dv (fun k => if k = m then dg q (nd q) m + 1 else f k) m = dv (dg q (nd q)) m := dv_congr (fun k hk => by
          show (if k = m then _ else f k) = _
          rw [if_neg (by omega), hf k (by omega)])
        rw [e1, e9, dv_s, dv_s, e2, if_pos rfl, Nat.add_assoc]
      have hlt : ∀ k, k < nd q → (fun k => if k = m then dg q (nd q) m + 1 else f k) k < 10 := fun k hk => by
        show (if k = m then dg q (nd q) m + 1 else f k) < 10
        split
        · omega
        · by_cases t : k < m + 1
          · rw [hf k t]; exact dg_lt _ _ _
          · rw [(hz0 k (by omega) hk).1]; omega
      have hb := dv_lt hlt
      rw [ev] at hb
      obtain ⟨n, rfl⟩ : ∃ x, n = x + 1 := ⟨n - 1, by omega⟩
      refine ⟨up2 h 50 (2600 * z + m) (iI ((dg q (nd q) m + 1 : Nat) : Int)), fun k => if k = m then dg q (nd q) m + 1 else f k, ?_, km_50 _ _ _ _ (by omega), up2_ne _ _ _ (by omega), up2_ne _ _ _ (by omega), fun k hk => ?_, hlt, by rw [if_neg (by omega)]; exact ev, by rw [if_neg (by omega), up2_o _ _ _ _ (by omega)]⟩
      · show f_M_round_62 (n + 1) (iI (z : Int)) 0 (iI ((m : Int) - 1)) (up2 h 50 (2600 * z + m) (iI ((dg q (nd q) m + 1 : Nat) : Int))) = _
        rw [f_M_round_62]
        unfold f_M_round_137
        rw [if_pos rfl, if_pos rfl]
        split <;> rfl
      · by_cases t : k = m
        · rw [t, up2_s]
          show _ = iI (((if m = m then dg q (nd q) m + 1 else f m : Nat)) : Int)
          rw [if_pos rfl]
        · rw [up2_k _ _ _ (by omega), ha k hk]
          show _ = iI (((if k = m then dg q (nd q) m + 1 else f k : Nat)) : Int)
          rw [if_neg t]
theorem M_round {h : Hp} {z c n : Nat} {s e : Int} (hz : z < 5) (H : isM h z s c e) (hn : 0 < n) (hn2 : n < 1000000) : ∃ h', f_M_round (iI (z : Int)) (iI (n : Int)) h = some ((), h') ∧ isM h' z s (rnd n c e).1 (rnd n c e).2 ∧ km h h' z := by
  have hm := mn_pos c
  have h4 := H.2.2.2.1
  unfold f_M_round
  rw [chk_t (inz hz)]
  simp only [clz hz, H.1, ixN]
  by_cases q : n < mn c
  · rw [if_pos (by rw [iI_lt ⟨by omega, by omega⟩ ⟨by omega, by omega⟩]; omega), chk_t (ixR hz (by omega))]
    simp only [clN (show 2600 * z + n < 2147483648 by omega), H.2.2.2.2 n q]
    have q2 : n < nd c := by unfold mn at q; omega
    have hc : 0 < c := by
      rcases Nat.eq_zero_or_pos c with t | t
      · rw [t, nd_0] at q2; omega
      · exact t
    have em := mn_c hc
    rw [em] at h4 ⊢
    have ed : dg c (nd c) n = c / 10 ^ (nd c - n - 1) % 10 := by
      unfold dg
      rw [show nd c - 1 - n = nd c - n - 1 by omega]
    have hdl := dg_lt c (nd c) n
    have eq0 := nd_divp (c := c) (k := nd c - n) (by omega)
    rw [show nd c - (nd c - n) = n by omega] at eq0
    have hq0 : 0 < c / 10 ^ (nd c - n) := by
      rcases Nat.eq_zero_or_pos (c / 10 ^ (nd c - n)) with t | t
      · rw [t, nd_0] at eq0; omega
      · exact t
    obtain ⟨H1, H2, H3, H4, H5⟩ := H
    rw [em] at H1 H4 H5
    let g0 : Hp := up2 (up2 h 52 z (iI (e + ((nd c : Int) - n)))) 51 z (iI (n : Int))
    have kg : km h g0 z := km_t (km_52 _ _ _) (km_51 _ _ _)
    have T1 : g0 51 z = iI (n : Int) := up2_s _ _ _ _
    have T2 : g0 52 z = iI (e + ((nd c : Int) - n)) := by show up2 _ 51 z _ 52 z = _; rw [up2_o _ _ _ _ (by omega), up2_s]
    have T3 : g0 53 z = iI s := by show up2 _ 51 z _ 53 z = _; rw [up2_o _ _ _ _ (by omega), up2_o _ _ _ _ (by omega)]; exact H3
    have T5 : ∀ k, k < n → g0 50 (2600 * z + k) = iI (dg (c / 10 ^ (nd c - n)) n k : Int) := fun k hk => by
      show up2 _ 51 z _ 50 _ = _
      rw [up2_o _ _ _ _ (by omega), up2_o _ _ _ _ (by omega), H5 k (by omega)]
      congr 2
      unfold dg
      rw [div_pp]
      congr 3
      omega
    have ee : e + ((nd c : Int) - n) = e + ((nd c - n : Nat) : Int) := by omega
    have e32 : ∀ u : Int32, f_M_round_32 (iI (z : Int)) (iI (n : Int)) u h = f_M_round_62 fuel (iI (z : Int)) u (iI ((n : Int) - 1)) g0 := fun u => by
      unfold f_M_round_32
      rw [chk_t (inz hz), chk_t (inz hz), chk_t (inz hz), chk_t (inz hz), clz hz, H2, H1, iI_sub, iI_add, i1, iI_sub]
    by_cases u : dg c (nd c) n < 5
    · rw [if_pos (by rw [show (5 : Int32) = iI 5 from rfl, iI_lt ⟨by omega, by omega⟩ ⟨by omega, by omega⟩]; omega), e32, show fuel = 999999 + 1 from rfl, f_M_round_62]
      have er : rnd n c e = (c / 10 ^ (nd c - n), e + ((nd c - n : Nat) : Int)) := by
        have hb := nd_lt (c / 10 ^ (nd c - n))
        rw [eq0] at hb
        have e5 : rup c (nd c - n) = c / 10 ^ (nd c - n) := by unfold rup; rw [if_neg (by rw [← ed]; omega), Nat.add_zero]
        unfold rnd
        rw [if_neg (by omega), e5, if_neg (by omega)]
      rw [er]
      unfold f_M_round_137
      rw [if_pos rfl, if_pos rfl]
      refine ⟨g0, by split <;> rfl, ?_, kg⟩
      refine ⟨by rw [mn_c hq0, eq0]; exact T1, by rw [T2, ee], T3, by rw [mn_c hq0, eq0]; omega, fun k hk => ?_⟩
      rw [mn_c hq0, eq0] at hk ⊢
      exact T5 k hk
    · rw [if_neg (by rw [show (5 : Int32) = iI 5 from rfl, iI_lt ⟨by omega, by omega⟩ ⟨by omega, by omega⟩]; omega), e32]
      have L := M_up_loop hz hq0 (by rw [eq0]; omega) n fuel g0 (dg (c / 10 ^ (nd c - n)) n)
      rw [eq0] at L
      obtain ⟨h', g, e', k', a', b', d', x', y', z'⟩ := L (Nat.le_refl _) (by unfold fuel; omega) T5 (fun _ _ => rfl) (fun k h1 h2 => by omega)
      have e5 : rup c (nd c - n) = c / 10 ^ (nd c - n) + 1 := by unfold rup; rw [if_pos (by rw [← ed]; omega)]
      refine ⟨h', e', ?_, km_t kg k'⟩
      unfold rnd
      rw [if_neg (by omega), e5]
      have hlow := nd_le hq0
      have hhigh := nd_lt (c / 10 ^ (nd c - n))
      rw [eq0] at hlow hhigh
      by_cases t : c / 10 ^ (nd c - n) + 1 = 10 ^ n
      · rw [if_pos t] at y' z' ⊢
        have em2 : mn (10 ^ (n - 1)) = n := by rw [mn_c (p10 _)]; exact nd_eq hn (Nat.le_refl _) (Nat.pow_lt_pow_right (by decide) (by omega))
        exact isM_of (by rw [a']; exact T1) (by rw [z', T2, i1, iI_add, ee]) (by rw [b']; exact T3) (by omega) x' d' y' em2
      · rw [if_neg t] at y' z' ⊢
        have em2 : mn (c / 10 ^ (nd c - n) + 1) = n := by rw [mn_c (by omega)]; exact nd_eq hn (by omega) (by omega)
        exact isM_of (by rw [a']; exact T1) (by rw [z', T2, ee]) (by rw [b']; exact T3) (by omega) x' d' y' em2
  · rw [if_neg (by rw [iI_lt ⟨by omega, by omega⟩ ⟨by omega, by omega⟩]; omega), rnd_same (by unfold mn at q; omega)]
    exact ⟨h, rfl, H, km_r _ _⟩
theorem M_nz_loop {z : Nat} {s : Int} (hz : z < 5) : ∀ (m n c : Nat) (e : Int) (h : Hp), nd c ≤ m → m < n → isM h z s c e → ∃ h', f_M_noZeros_0 n (iI (z : Int)) h = some ((), h') ∧ isM h' z s (strp m c e).1 (strp m c e).2 ∧ km h h' z := by
  intro m
  induction m with
  | zero =>
    intro n c e h hm hn H
    obtain ⟨n, rfl⟩ : ∃ q, n = q + 1 := ⟨n - 1, by omega⟩
    rw [f_M_noZeros_0, chk_t (inz hz)]
    simp only [clz hz, H.1]
    rw [if_pos (by rw [i1, iI_le ⟨by omega, by have := H.2.2.2.1; omega⟩ ⟨by omega, by omega⟩]; unfold mn; omega)]
    exact ⟨h, rfl, H, km_r _ _⟩
  | succ m ih =>
    intro n c e h hm hn H
    obtain ⟨n, rfl⟩ : ∃ q, n = q + 1 := ⟨n - 1, by omega⟩
    have h4 := H.2.2.2.1
    rw [f_M_noZeros_0, chk_t (inz hz), strp]
    simp only [clz hz, H.1]
    by_cases q : nd c ≤ 1
    · rw [if_pos (by rw [i1, iI_le ⟨by omega, by omega⟩ ⟨by omega, by omega⟩]; unfold mn; omega), if_neg (by omega)]
      exact ⟨h, rfl, H, km_r _ _⟩
    · have hc : 0 < c := by
        rcases Nat.eq_zero_or_pos c with t | t
        · rw [t, nd_0] at q; omega
        · exact t
      have em := mn_c hc
      have ei : (2600 : Int32) * iI (z : Int) + iI (mn c : Int) - 1 = iI ((2600 * z + (nd c - 1) : Nat) : Int) := by rw [ixN, i1, iI_sub, em]; congr 1; omega
      rw [if_neg (by rw [i1, iI_le ⟨by omega, by omega⟩ ⟨by omega, by omega⟩]; omega), chk_t (inz hz), ei, chk_t (ixR hz (by omega))]
      simp only [clN (show 2600 * z + (nd c - 1) < 2147483648 by omega), H.2.2.2.2 (nd c - 1) (by omega)]
      rw [em, dg_last (by omega)]
      by_cases q2 : c % 10 = 0
      · rw [if_pos (by rw [q2]; rfl), if_pos ⟨by omega, q2⟩, chk_t (inz hz), chk_t (inz hz), chk_t (inz hz), chk_t (inz hz), up2_o _ _ _ _ (by omega : (52 : Nat) ≠ 51), H.2.1, i1, iI_sub, iI_add]
        have e1 := nd_divp (c := c) (k := 1) (by omega)
        rw [Nat.pow_one] at e1
        have hc1 : 0 < c / 10 := by
          rcases Nat.eq_zero_or_pos (c / 10) with t | t
          · rw [t, nd_0] at e1; omega
          · exact t
        have em1 := mn_c hc1
        obtain ⟨h', e', H', K'⟩ := ih n (c / 10) (e + 1) (up2 (up2 h 51 z (iI ((nd c : Int) - 1))) 52 z (iI (e + 1))) (by omega) (by omega) (by
          refine ⟨?_, by rw [up2_s], ?_, by rw [em1]; omega, fun k hk => ?_⟩
          · rw [up2_o _ _ _ _ (by omega), up2_s, em1, e1]; congr 1; omega
          · rw [up2_o _ _ _ _ (by omega), up2_o _ _ _ _ (by omega)]; exact H.2.2.1
          · rw [em1, e1] at hk ⊢
            rw [up2_o _ _ _ _ (by omega), up2_o _ _ _ _ (by omega), H.2.2.2.2 k (by omega), em]
            congr 2
            unfold dg
            have e2 := div_pp c 1 (nd c - 1 - 1 - k)
            rw [Nat.pow_one] at e2
            rw [e2]
            congr 3
            omega)
        exact ⟨h', e', H', km_t (km_t (km_51 _ _ _) (km_52 _ _ _)) K'⟩
      · rw [if_neg (by
          intro t
          have := (iI_eq ⟨by omega, by omega⟩ ⟨by omega, by omega⟩).mp (show iI ((c % 10 : Nat) : Int) = iI 0 from t)
          omega), if_neg (by omega)]
        exact ⟨h, rfl, H, km_r _ _⟩
theorem M_noZeros {h : Hp} {z c : Nat} {s e : Int} (hz : z < 5) (H : isM h z s c e) : ∃ h', f_M_noZeros (iI (z : Int)) h = some ((), h') ∧ isM h' z s (strip c e).1 (strip c e).2 ∧ km h h' z := by
  have h4 := H.2.2.2.1
  exact M_nz_loop hz (nd c) fuel c e h (Nat.le_refl _) (by unfold fuel; unfold mn at h4; omega) H
