/-! PURE 3: end, put, size, at, digits, fuzz, form -/
theorem SC_0 {h : Hp} {s : St} {k : Nat} {v : Int32} (H : SC h s) (h9 : k ≠ 9) (h10 : k ≠ 10) (h11 : k ≠ 11) : SC (up2 h 0 k v) s := by
  obtain ⟨a, b, c, d, e⟩ := H
  exact ⟨isL_eq a (up2_ne _ _ _ (by omega)) (up2_ne _ _ _ (by omega)), fun r hr => isL_eq (b r hr) (up2_ne _ _ _ (by omega)) (up2_ne _ _ _ (by omega)), by rw [up2_k _ _ _ (by omega)]; exact c, by rw [up2_k _ _ _ (by omega)]; exact d, by rw [up2_k _ _ _ (by omega)]; exact e⟩
-- ===== end =====
def sp_end (n : Int) (s : St) : Int32 × St := if 0 ≤ n ∧ n ≤ s.1.length then (iI n, (s.1.take n.toNat, s.2)) else (iI (-1), s)
theorem okB_take {a : List Nat} {n m : Nat} (h : okB a n) : okB (a.take m) n := by
  refine ⟨by rw [List.length_take]; have := h.1; omega, fun k hk => ?_⟩
  rw [List.length_take] at hk
  rw [gD_t (by omega)]
  exact h.2 k (by omega)
theorem okS_end {n : Int} {s : St} (H : okS s) : okS (sp_end n s).2 := by
  unfold sp_end
  split
  · exact ⟨okB_take H.1, H.2⟩
  · exact H
theorem C_end {n : Int} {s : St} {h : Hp} (hn : bI n) (H : SC h s) (ok : okS s) : ∃ h', f_D_end (iI n) h = some ((sp_end n s).1, h') ∧ SC h' (sp_end n s).2 ∧ lo h h' := by
  obtain ⟨t, rg, rest⟩ := H
  have hl := ok.1.1
  obtain ⟨t1, t2, t3, t4⟩ := t
  unfold f_D_end sp_end
  rw [t1]
  simp (disch := omega) only [iI_lit, iI_lt, iI_le, iI_neg]
  by_cases q : n < 0
  · rw [if_pos (by omega), if_neg (by omega)]
    exact ⟨h, rfl, ⟨⟨t1, t2, t3, t4⟩, rg, rest⟩, lo_r h⟩
  · rw [if_neg (by omega)]
    by_cases q2 : n ≤ s.1.length
    · rw [if_pos (by omega), if_pos (by omega)]
      refine ⟨_, rfl, ⟨⟨?_, ?_, ?_, ?_⟩, fun r hr => isL_eq (rg r hr) (up2_ne _ _ _ (by omega)) (up2_ne _ _ _ (by omega)), ?_⟩, lo_up _ _ _ (by omega)⟩
      · show up2 h 1 1 (iI n) 1 1 = _
        rw [up2_s, List.length_take]
        congr 1
        omega
      · show (s.1.take n.toNat).length ≤ _
        rw [List.length_take]
        omega
      · intro k hk
        rw [List.length_take] at hk
        rw [gD_t (by omega)]
        exact t3 k (by omega)
      · intro k hk
        rw [List.length_take] at hk
        rw [gD_t (by omega), up2_o _ _ _ _ (by omega)]
        exact t4 k (by omega)
      · rw [up2_ne _ _ _ (by omega)]
        exact rest
    · rw [if_neg (by omega), if_neg (by omega)]
      exact ⟨h, rfl, ⟨⟨t1, t2, t3, t4⟩, rg, rest⟩, lo_r h⟩
theorem M_end {n : Int} {s : St} {h : Hp} (hn : bI n) (H : SR h s) (ok : okS s) : ∃ h', f_M_end (iI n) h = some ((sp_end n s).1, h') ∧ SR h' (sp_end n s).2 ∧ hi h h' := by
  have t := H.1
  have hl := ok.1.1
  unfold f_M_end sp_end
  rw [t.1]
  simp (disch := omega) only [iI_lit, iI_lt, iI_le, iI_neg]
  by_cases q : n < 0
  · rw [if_pos (by omega), if_neg (by omega)]
    exact ⟨h, rfl, H, hi_r h⟩
  · rw [if_neg (by omega)]
    by_cases q2 : n ≤ s.1.length
    · rw [if_pos (by omega), if_pos (by omega)]
      have k : kt h (up2 h 46 1 (iI n)) := ⟨fun j p _ => up2_ne _ _ _ p, fun k p => up2_k _ _ _ p⟩
      refine ⟨_, rfl, SR_kt H k ⟨?_, fun k hk => ?_⟩, hi_kt k⟩
      · rw [up2_s, List.length_take]
        congr 1
        omega
      · rw [List.length_take] at hk
        rw [gD_t (by omega), up2_o _ _ _ _ (by omega)]
        exact t.2 k (by omega)
    · rw [if_neg (by omega), if_neg (by omega)]
      exact ⟨h, rfl, H, hi_r h⟩
-- ===== registers =====
abbrev isReg (r : Int) : Prop := 0 ≤ r ∧ r < 10
theorem C_find {r : Int} {h : Hp} (hr : bI r) : f_D_find (iI r) h = some (if isReg r then some (4 + 2 * r.toNat) else none, h) := by
  unfold f_D_find
  simp (disch := omega) only [iI_lit, iI_lt]
  by_cases q : r < 0
  · rw [if_pos (by omega), if_neg (by omega)]
  · rw [if_neg (by omega)]
    by_cases q2 : r < 10
    · rw [if_pos (by omega), if_pos (by omega), chk_t (iI_inR (by omega) (by omega) (by omega)), iI_cl (by omega) (by omega)]
    · rw [if_neg (by omega), if_neg (by omega)]
theorem cLine_reg {r : Nat} (hr : r < 10) : cLine (4 + 2 * r) := by omega
theorem M_isReg {r : Int} {h : Hp} (hr : bI r) : f_M_isRegister (iI r) h = some (iI (if isReg r then 1 else 0), h) := by
  unfold f_M_isRegister
  simp (disch := omega) only [iI_lit, iI_lt, iI_le]
  by_cases q : r < 0
  · rw [if_pos (by omega), if_neg (by omega)]
    rfl
  · rw [if_neg (by omega)]
    by_cases q2 : r < 10
    · rw [if_neg (by omega), if_pos (by omega)]
      rfl
    · rw [if_pos (by omega), if_neg (by omega)]
      rfl
-- ===== put =====
def setR (rg : Nat → List Nat) (r : Nat) (bs : List Nat) : Nat → List Nat := fun k => if k = r then bs else rg k
def sp_put (r : Int) (s : St) : Int32 × St := if isReg r ∧ s.1.length ≤ 200 then (iI (s.1.length : Int), ([], setR s.2.1 r.toNat s.1, s.2.2)) else (iI (-1), s)
theorem okS_put {r : Int} {s : St} (H : okS s) : okS (sp_put r s).2 := by
  unfold sp_put
  split
  · rename_i q
    refine ⟨⟨Nat.zero_le _, fun k hk => absurd hk (Nat.not_lt_zero k)⟩, fun k hk => ?_, H.2.2⟩
    show okB (setR s.2.1 r.toNat s.1 k) 200
    unfold setR
    split
    · exact ⟨q.2, H.1.2⟩
    · exact H.2.1 k hk
  · exact H
theorem C_put {r : Int} {s : St} {h : Hp} (hr : bI r) (H : SC h s) (ok : okS s) : ∃ h', f_D_put (iI r) h = some ((sp_put r s).1, h') ∧ SC h' (sp_put r s).2 ∧ lo h h' := by
  have hl := ok.1.1
  unfold f_D_put sp_put
  rw [bd_t (C_find hr)]
  by_cases q : isReg r
  · rw [if_pos q]
    show ∃ h', chk _ _ = _ ∧ _
    rw [chk_t (cLine_reg (by omega)), H.1.1]
    simp (disch := omega) only [iI_lit, iI_le, iI_neg]
    by_cases q2 : s.1.length ≤ 200
    · rw [if_pos (by omega), if_pos ⟨q, q2⟩]
      obtain ⟨t, rg, rest⟩ := H
      obtain ⟨h1, e1, H1, k1⟩ := L_copy (i := 4 + 2 * r.toNat) (by omega) (by omega) (by omega) t (by rw [bl_reg]; omega)
      rw [bd_t e1]
      refine ⟨up2 h1 1 1 0, ?_, ⟨isL_nil, fun k hk => ?_, ?_⟩, ?_⟩
      · rw [up2_o _ _ _ _ (by omega), H1.1]
        rfl
      · show isL _ _ (setR s.2.1 r.toNat s.1 k)
        unfold setR
        by_cases z : k = r.toNat
        · rw [if_pos z, z]
          exact isL_eq H1 (up2_ne _ _ _ (by omega)) (up2_ne _ _ _ (by omega))
        · rw [if_neg z]
          exact isL_eq (rg k hk) ((up2_ne _ _ _ (by omega)).trans (k1 _ (by omega) (by omega))) ((up2_ne _ _ _ (by omega)).trans (k1 _ (by omega) (by omega)))
      · rw [up2_ne _ _ _ (by omega), k1 0 (by omega) (by omega)]
        exact rest
      · exact lo_t (lo_kp k1 (by omega) (by omega)) (lo_up _ _ _ (by omega))
    · rw [if_neg (by omega), if_neg (by omega)]
      exact ⟨h, rfl, H, lo_r h⟩
  · rw [if_neg q, if_neg (by omega)]
    exact ⟨h, rfl, H, lo_r h⟩
theorem M_put_loop {r : Nat} {bs : List Nat} (hr : r < 10) : ∀ (m k n : Nat) (h : Hp), k + m = bs.length → m < n → bs.length ≤ 200 → isT h bs → (∀ q, q < k → h 48 (200 * r + q) = iI (bs.getD q 0 : Int)) → ∃ h', f_M_put_21 n (iI (r : Int)) (iI (k : Int)) h = some (iI (bs.length : Int), up2 (up2 h' 49 r (iI (bs.length : Int))) 46 1 0) ∧ (∀ q, q < bs.length → h' 48 (200 * r + q) = iI (bs.getD q 0 : Int)) ∧ (∀ q, q < 200 * r ∨ 200 * r + 200 ≤ q → h' 48 q = h 48 q) ∧ ∀ j, j ≠ 48 → h' j = h j := by
  intro m
  induction m with
  | zero =>
    intro k n h hk hn hl H Hk
    obtain ⟨n, rfl⟩ : ∃ q, n = q + 1 := ⟨n - 1, by omega⟩
    rw [f_M_put_21, H.1, if_pos (by rw [iI_le ⟨by omega, by omega⟩ ⟨by omega, by omega⟩]; omega), chk_t (iI_inR (by omega) (by omega) (by omega)), chk_t (iI_inR (by omega) (by omega) (by omega)), iI_cl (by omega) (by omega), Int.toNat_natCast]
    refine ⟨h, ?_, fun q hq => Hk q (by omega), fun _ _ => rfl, fun _ _ => rfl⟩
    rw [up2_o _ _ _ _ (by omega), up2_s]
  | succ m ih =>
    intro k n h hk hn hl H Hk
    obtain ⟨n, rfl⟩ : ∃ q, n = q + 1 := ⟨n - 1, by omega⟩
    rw [f_M_put_21, H.1, if_neg (by rw [iI_le ⟨by omega, by omega⟩ ⟨by omega, by omega⟩]; omega), chk_t (iI_inR (by omega) (by omega) (by omega))]
    simp only [iI_lit, iI_mul, iI_add]
    rw [chk_t (iI_inR (by omega) (by omega) (by omega)), iI_cl (by omega) (by omega), iI_cl (by omega) (by omega), Int.toNat_natCast, H.2 k (by omega), show ((200 : Nat) * (r : Int) + (k : Int)).toNat = 200 * r + k by omega]
    obtain ⟨h', e, a, b, c⟩ := ih (k + 1) n (up2 h 48 (200 * r + k) (iI (bs.getD k 0 : Int))) (by omega) (by omega) hl ⟨by rw [up2_o _ _ _ _ (by omega)]; exact H.1, fun q hq => by rw [up2_o _ _ _ _ (by omega)]; exact H.2 q hq⟩ (fun q hq => by
      by_cases z : q = k
      · rw [z, up2_s]
      · rw [up2_k _ _ _ (by omega)]
        exact Hk q (by omega))
    refine ⟨h', ?_, a, fun q hq => ?_, fun j hj => ?_⟩
    · exact e
    · rw [b q hq, up2_k _ _ _ (by omega)]
    · rw [c j hj, up2_ne _ _ _ hj]
theorem M_put {r : Int} {s : St} {h : Hp} (hr : bI r) (H : SR h s) (ok : okS s) : ∃ h', f_M_put (iI r) h = some ((sp_put r s).1, h') ∧ SR h' (sp_put r s).2 ∧ hi h h' := by
  have hl := ok.1.1
  unfold f_M_put sp_put
  rw [bd_t (M_isReg hr)]
  by_cases q : isReg r
  · rw [if_pos q, if_neg (by decide), H.1.1]
    simp (disch := omega) only [iI_le, iI_lit, iI_neg]
    by_cases q2 : s.1.length ≤ 200
    · rw [if_pos (by omega), if_pos ⟨q, q2⟩]
      obtain ⟨r, rfl⟩ : ∃ k : Nat, r = k := ⟨r.toNat, by omega⟩
      obtain ⟨h', e, a, b, c⟩ := M_put_loop (r := r) (bs := s.1) (by omega) s.1.length 0 fuel h (by omega) (by unfold fuel; omega) q2 H.1 (fun q hq => absurd hq (Nat.not_lt_zero q))
      obtain ⟨-, rg, d1, d2, d3⟩ := H
      refine ⟨_, e, ⟨⟨by rw [up2_s]; rfl, fun k hk => absurd hk (Nat.not_lt_zero k)⟩, fun k hk => ?_, ?_, ?_, ?_⟩, ?_⟩
      · show isR _ _ (setR s.2.1 (r : Int).toNat s.1 k)
        unfold setR
        rw [Int.toNat_natCast]
        by_cases z : k = r
        · rw [if_pos z, z]
          refine ⟨by rw [up2_o _ _ _ _ (by omega), up2_s], fun q hq => ?_⟩
          rw [up2_o _ _ _ _ (by omega), up2_o _ _ _ _ (by omega)]
          exact a q hq
        · rw [if_neg z]
          have l2 := (ok.2.1 k hk).1
          refine ⟨by rw [up2_o _ _ _ _ (by omega), up2_k _ _ _ z, c 49 (by omega)]; exact (rg k hk).1, fun q hq => ?_⟩
          rw [up2_o _ _ _ _ (by omega), up2_o _ _ _ _ (by omega), b _ (by omega)]
          exact (rg k hk).2 q hq
      · rw [up2_k _ _ _ (by omega), up2_o _ _ _ _ (by omega), c 46 (by omega)]; exact d1
      · rw [up2_k _ _ _ (by omega), up2_o _ _ _ _ (by omega), c 46 (by omega)]; exact d2
      · rw [up2_k _ _ _ (by omega), up2_o _ _ _ _ (by omega), c 46 (by omega)]; exact d3
      · intro j hj
        rw [up2_ne _ _ _ (by omega), up2_ne _ _ _ (by omega), c j (by omega)]
    · rw [if_neg (by omega), if_neg (by omega)]
      exact ⟨h, rfl, H, hi_r h⟩
  · rw [if_neg q, if_pos (by rfl), if_neg (by omega)]
    exact ⟨h, rfl, H, hi_r h⟩
-- ===== size, at =====
def sp_size (r : Int) (s : St) : Int32 := if isReg r then iI ((s.2.1 r.toNat).length : Int) else iI (-1)
theorem C_size {r : Int} {s : St} {h : Hp} (hr : bI r) (H : SC h s) : f_D_size (iI r) h = some (sp_size r s, h) := by
  unfold f_D_size sp_size
  rw [bd_t (C_find hr)]
  by_cases q : isReg r
  · rw [if_pos q, if_pos q]
    show chk _ _ = _
    rw [chk_t (cLine_reg (by omega)), (H.2.1 r.toNat (by omega)).1]
  · rw [if_neg q, if_neg q]
    rfl
theorem M_size {r : Int} {s : St} {h : Hp} (hr : bI r) (H : SR h s) : f_M_size (iI r) h = some (sp_size r s, h) := by
  unfold f_M_size sp_size
  rw [bd_t (M_isReg hr)]
  by_cases q : isReg r
  · rw [if_pos q, if_pos q, if_neg (by decide), chk_t (iI_inR (by omega) (by omega) (by omega)), iI_cl (by omega) (by omega), (H.2.1 r.toNat (by omega)).1]
  · rw [if_neg q, if_neg q, if_pos (by rfl)]
    rfl
def sp_at (r i : Int) (s : St) : Int32 := if isReg r then iI (bAt (s.2.1 r.toNat) i) else iI (-1)
theorem C_at {r i : Int} {s : St} {h : Hp} (hr : bI r) (hi : bI i) (H : SC h s) : f_D_at (iI r) (iI i) h = some (sp_at r i s, h) := by
  unfold f_D_at sp_at
  rw [bd_t (C_find hr)]
  by_cases q : isReg r
  · rw [if_pos q, if_pos q]
    show chk _ _ = _
    rw [chk_t (cLine_reg (by omega)), bd_t (L_byteAt (H.2.1 r.toNat (by omega)) hi)]
  · rw [if_neg q, if_neg q]
    rfl
theorem M_at {r i : Int} {s : St} {h : Hp} (hr : bI r) (hi : bI i) (H : SR h s) (ok : okS s) : f_M_at (iI r) (iI i) h = some (sp_at r i s, h) := by
  unfold f_M_at sp_at
  rw [bd_t (M_isReg hr)]
  by_cases q : isReg r
  · obtain ⟨r, rfl⟩ : ∃ k : Nat, r = k := ⟨r.toNat, by omega⟩
    have l2 := (ok.2.1 r (by omega)).1
    rw [if_pos q, if_pos q, if_neg (by decide), chk_t (iI_inR (by omega) (by omega) (by omega)), iI_cl (by omega) (by omega), Int.toNat_natCast, (H.2.1 r (by omega)).1]
    unfold bAt
    simp (disch := omega) only [iI_lit, iI_lt, iI_le, iI_mul, iI_add, iI_neg]
    by_cases q1 : i < 0
    · rw [if_pos (by omega), if_neg (by omega)]
      rfl
    · rw [if_neg (by omega)]
      by_cases q2 : i < (s.2.1 r).length
      · rw [if_neg (by omega), if_pos (by omega), chk_t (iI_inR (by omega) (by omega) (by omega)), iI_cl (by omega) (by omega), show (((200 : Nat) : Int) * (r : Int) + i).toNat = 200 * r + i.toNat by omega, (H.2.1 r (by omega)).2 i.toNat (by omega)]
      · rw [if_pos (by omega), if_neg (by omega)]
        rfl
  · rw [if_neg q, if_neg q, if_pos (by rfl)]
    rfl
-- ===== digits, fuzz, form =====
def sp_digits (n : Int) (s : St) : Int32 × St := if 1 ≤ n ∧ n ≤ 20 ∧ (s.2.2.2.1 : Int) < n then (iI 1, (s.1, s.2.1, n.toNat, s.2.2.2)) else (iI (-1), s)
def sp_fuzz (n : Int) (s : St) : Int32 × St := if 0 ≤ n ∧ n < (s.2.2.1 : Int) then (iI 1, (s.1, s.2.1, s.2.2.1, n.toNat, s.2.2.2.2)) else (iI (-1), s)
def sp_form (n : Int) (s : St) : Int32 × St := if n = 0 ∨ n = 1 then (iI 1, (s.1, s.2.1, s.2.2.1, s.2.2.2.1, n.toNat)) else (iI (-1), s)
theorem okS_digits {n : Int} {s : St} (H : okS s) : okS (sp_digits n s).2 := by
  obtain ⟨a, b, c, d, e, f⟩ := H
  unfold sp_digits
  split
  · exact ⟨a, b, by show 1 ≤ n.toNat; omega, by show n.toNat ≤ 20; omega, by show s.2.2.2.1 < n.toNat; omega, f⟩
  · exact ⟨a, b, c, d, e, f⟩
theorem okS_fuzz {n : Int} {s : St} (H : okS s) : okS (sp_fuzz n s).2 := by
  obtain ⟨a, b, c, d, e, f⟩ := H
  unfold sp_fuzz
  split
  · exact ⟨a, b, c, d, by show n.toNat < s.2.2.1; omega, f⟩
  · exact ⟨a, b, c, d, e, f⟩
theorem okS_form {n : Int} {s : St} (H : okS s) : okS (sp_form n s).2 := by
  obtain ⟨a, b, c, d, e, f⟩ := H
  unfold sp_form
  split
  · exact ⟨a, b, c, d, e, by show n.toNat ≤ 1; omega⟩
  · exact ⟨a, b, c, d, e, f⟩
theorem SC_set {h : Hp} {s : St} (H : SC h s) (k : Nat) (v : Int32) (d f o : Nat) (h9 : up2 h 0 k v 0 9 = iI (d : Int)) (h10 : up2 h 0 k v 0 10 = iI (f : Int)) (h11 : up2 h 0 k v 0 11 = iI (o : Int)) : SC (up2 h 0 k v) (s.1, s.2.1, d, f, o) := by
  obtain ⟨a, b, -⟩ := H
  exact ⟨isL_eq a (up2_ne _ _ _ (by omega)) (up2_ne _ _ _ (by omega)), fun r hr => isL_eq (b r hr) (up2_ne _ _ _ (by omega)) (up2_ne _ _ _ (by omega)), h9, h10, h11⟩
theorem SR_set {h : Hp} {s : St} (H : SR h s) (k : Nat) (v : Int32) (d f o : Nat) (hk : k ≠ 1) (h9 : up2 h 46 k v 46 4 = iI (d : Int)) (h10 : up2 h 46 k v 46 5 = iI (f : Int)) (h11 : up2 h 46 k v 46 6 = iI (o : Int)) : SR (up2 h 46 k v) (s.1, s.2.1, d, f, o) := by
  obtain ⟨⟨a1, a2⟩, b, -⟩ := H
  exact ⟨⟨by rw [up2_k _ _ _ (fun z => hk z.symm)]; exact a1, fun q hq => by rw [up2_o _ _ _ _ (by omega)]; exact a2 q hq⟩, fun r hr => ⟨by rw [up2_o _ _ _ _ (by omega)]; exact (b r hr).1, fun q hq => by rw [up2_o _ _ _ _ (by omega)]; exact (b r hr).2 q hq⟩, h9, h10, h11⟩
theorem C_digits {n : Int} {s : St} {h : Hp} (hn : bI n) (H : SC h s) (ok : okS s) : ∃ h', f_D_digits (iI n) h = some ((sp_digits n s).1, h') ∧ SC h' (sp_digits n s).2 ∧ lo h h' := by
  obtain ⟨-, -, o1, o2, o3, o4⟩ := ok
  have c := H.2.2
  unfold f_D_digits sp_digits
  rw [c.2.1]
  simp (disch := omega) only [iI_lit, iI_lt, iI_neg]
  by_cases q : 1 ≤ n ∧ n ≤ 20 ∧ (s.2.2.2.1 : Int) < n
  · rw [if_neg (by omega), if_neg (by omega), if_pos (by omega), if_pos q]
    exact ⟨_, rfl, SC_set H 9 _ n.toNat _ _ (by rw [up2_s]; congr 1; omega) (by rw [up2_k _ _ _ (by omega)]; exact c.2.1) (by rw [up2_k _ _ _ (by omega)]; exact c.2.2), lo_up _ _ _ (by omega)⟩
  · rw [if_neg q]
    by_cases q1 : n < 1
    · rw [if_pos (by omega)]; exact ⟨h, rfl, H, lo_r h⟩
    · rw [if_neg (by omega)]
      by_cases q2 : 20 < n
      · rw [if_pos (by omega)]; exact ⟨h, rfl, H, lo_r h⟩
      · rw [if_neg (by omega), if_neg (by omega)]; exact ⟨h, rfl, H, lo_r h⟩
theorem M_digits {n : Int} {s : St} {h : Hp} (hn : bI n) (H : SR h s) (ok : okS s) : ∃ h', f_M_digits (iI n) h = some ((sp_digits n s).1, h') ∧ SR h' (sp_digits n s).2 ∧ hi h h' := by
  obtain ⟨-, -, o1, o2, o3, o4⟩ := ok
  have c := H.2.2
  unfold f_M_digits sp_digits
  rw [c.2.1]
  simp (disch := omega) only [iI_lit, iI_lt, iI_neg]
  by_cases q : 1 ≤ n ∧ n ≤ 20 ∧ (s.2.2.2.1 : Int) < n
  · rw [if_neg (by omega), if_neg (by omega), if_pos (by omega), if_pos q]
    exact ⟨_, rfl, SR_set H 4 _ n.toNat _ _ (by omega) (by rw [up2_s]; congr 1; omega) (by rw [up2_k _ _ _ (by omega)]; exact c.2.1) (by rw [up2_k _ _ _ (by omega)]; exact c.2.2), hi_up _ _ _ (by omega)⟩
  · rw [if_neg q]
    by_cases q1 : n < 1
    · rw [if_pos (by omega)]; exact ⟨h, rfl, H, hi_r h⟩
    · rw [if_neg (by omega)]
      by_cases q2 : 20 < n
      · rw [if_pos (by omega)]; exact ⟨h, rfl, H, hi_r h⟩
      · rw [if_neg (by omega), if_neg (by omega)]; exact ⟨h, rfl, H, hi_r h⟩
theorem C_fuzz {n : Int} {s : St} {h : Hp} (hn : bI n) (H : SC h s) (ok : okS s) : ∃ h', f_D_fuzz (iI n) h = some ((sp_fuzz n s).1, h') ∧ SC h' (sp_fuzz n s).2 ∧ lo h h' := by
  obtain ⟨-, -, o1, o2, o3, o4⟩ := ok
  have c := H.2.2
  unfold f_D_fuzz sp_fuzz
  rw [c.1]
  simp (disch := omega) only [iI_lit, iI_lt, iI_neg]
  by_cases q1 : n < 0
  · rw [if_pos (by omega), if_neg (by omega)]; exact ⟨h, rfl, H, lo_r h⟩
  · rw [if_neg (by omega)]
    by_cases q2 : n < (s.2.2.1 : Int)
    · rw [if_pos (by omega), if_pos (by omega)]
      exact ⟨_, rfl, SC_set H 10 _ _ n.toNat _ (by rw [up2_k _ _ _ (by omega)]; exact c.1) (by rw [up2_s]; congr 1; omega) (by rw [up2_k _ _ _ (by omega)]; exact c.2.2), lo_up _ _ _ (by omega)⟩
    · rw [if_neg (by omega), if_neg (by omega)]; exact ⟨h, rfl, H, lo_r h⟩
theorem M_fuzz {n : Int} {s : St} {h : Hp} (hn : bI n) (H : SR h s) (ok : okS s) : ∃ h', f_M_fuzz (iI n) h = some ((sp_fuzz n s).1, h') ∧ SR h' (sp_fuzz n s).2 ∧ hi h h' := by
  obtain ⟨-, -, o1, o2, o3, o4⟩ := ok
  have c := H.2.2
  unfold f_M_fuzz sp_fuzz
  rw [c.1]
  simp (disch := omega) only [iI_lit, iI_lt, iI_neg]
  by_cases q1 : n < 0
  · rw [if_pos (by omega), if_neg (by omega)]; exact ⟨h, rfl, H, hi_r h⟩
  · rw [if_neg (by omega)]
    by_cases q2 : n < (s.2.2.1 : Int)
    · rw [if_pos (by omega), if_pos (by omega)]
      exact ⟨_, rfl, SR_set H 5 _ _ n.toNat _ (by omega) (by rw [up2_k _ _ _ (by omega)]; exact c.1) (by rw [up2_s]; congr 1; omega) (by rw [up2_k _ _ _ (by omega)]; exact c.2.2), hi_up _ _ _ (by omega)⟩
    · rw [if_neg (by omega), if_neg (by omega)]; exact ⟨h, rfl, H, hi_r h⟩
theorem C_form {n : Int} {s : St} {h : Hp} (hn : bI n) (H : SC h s) : ∃ h', f_D_form (iI n) h = some ((sp_form n s).1, h') ∧ SC h' (sp_form n s).2 ∧ lo h h' := by
  have c := H.2.2
  unfold f_D_form sp_form
  simp (disch := omega) only [iI_lit, iI_eq, iI_neg]
  by_cases q : n = 0 ∨ n = 1
  · have g : SC (up2 h 0 11 (iI n)) (s.1, s.2.1, s.2.2.1, s.2.2.2.1, n.toNat) := SC_set H 11 _ _ _ n.toNat (by rw [up2_k _ _ _ (by omega)]; exact c.1) (by rw [up2_k _ _ _ (by omega)]; exact c.2.1) (by rw [up2_s]; congr 1; omega)
    rw [if_pos q]
    by_cases q1 : n = 0
    · rw [if_pos (by omega)]; exact ⟨_, rfl, g, lo_up _ _ _ (by omega)⟩
    · rw [if_neg (by omega), if_pos (by omega)]; exact ⟨_, rfl, g, lo_up _ _ _ (by omega)⟩
  · rw [if_neg (by omega), if_neg (by omega), if_neg q]; exact ⟨h, rfl, H, lo_r h⟩
theorem M_form {n : Int} {s : St} {h : Hp} (hn : bI n) (H : SR h s) : ∃ h', f_M_form (iI n) h = some ((sp_form n s).1, h') ∧ SR h' (sp_form n s).2 ∧ hi h h' := by
  have c := H.2.2
  unfold f_M_form sp_form
  simp (disch := omega) only [iI_lit, iI_eq, iI_neg]
  by_cases q : n = 0 ∨ n = 1
  · have g : SR (up2 h 46 6 (iI n)) (s.1, s.2.1, s.2.2.1, s.2.2.2.1, n.toNat) := SR_set H 6 _ _ _ n.toNat (by omega) (by rw [up2_k _ _ _ (by omega)]; exact c.1) (by rw [up2_k _ _ _ (by omega)]; exact c.2.1) (by rw [up2_s]; congr 1; omega)
    rw [if_pos q]
    by_cases q1 : n = 0
    · rw [if_pos (by omega)]; exact ⟨_, rfl, g, hi_up _ _ _ (by omega)⟩
    · rw [if_neg (by omega), if_pos (by omega)]; exact ⟨_, rfl, g, hi_up _ _ _ (by omega)⟩
  · rw [if_neg (by omega), if_neg (by omega), if_neg q]; exact ⟨h, rfl, H, hi_r h⟩
