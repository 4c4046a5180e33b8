/-! PURE 2: the abstract state, both sides' pictures of it, and the calls that don't reckon -/
/-- tape, registers, digits, fuzz, form -/
abbrev St : Type := List Nat × (Nat → List Nat) × Nat × Nat × Nat
def okB (bs : List Nat) (n : Nat) : Prop := bs.length ≤ n ∧ ∀ k, k < bs.length → bs.getD k 0 < 256
def okS (s : St) : Prop := okB s.1 240 ∧ (∀ r, r < 10 → okB (s.2.1 r) 200) ∧ 1 ≤ s.2.2.1 ∧ s.2.2.1 ≤ 20 ∧ s.2.2.2.1 < s.2.2.1 ∧ s.2.2.2.2 ≤ 1
def SC (h : Hp) (s : St) : Prop := isL h 1 s.1 ∧ (∀ r, r < 10 → isL h (4 + 2 * r) (s.2.1 r)) ∧ h 0 9 = iI (s.2.2.1 : Int) ∧ h 0 10 = iI (s.2.2.2.1 : Int) ∧ h 0 11 = iI (s.2.2.2.2 : Int)
def isT (h : Hp) (bs : List Nat) : Prop := h 46 1 = iI (bs.length : Int) ∧ ∀ k, k < bs.length → h 47 k = iI (bs.getD k 0 : Int)
def isR (h : Hp) (r : Nat) (bs : List Nat) : Prop := h 49 r = iI (bs.length : Int) ∧ ∀ k, k < bs.length → h 48 (200 * r + k) = iI (bs.getD k 0 : Int)
def SR (h : Hp) (s : St) : Prop := isT h s.1 ∧ (∀ r, r < 10 → isR h r (s.2.1 r)) ∧ h 46 4 = iI (s.2.2.1 : Int) ∧ h 46 5 = iI (s.2.2.2.1 : Int) ∧ h 46 6 = iI (s.2.2.2.2 : Int)
/-- the reference's cells stay; the class's cells stay -/
def lo (h h' : Hp) : Prop := ∀ j, 46 ≤ j → h' j = h j
def hi (h h' : Hp) : Prop := ∀ j, j < 46 → h' j = h j
theorem lo_r (h : Hp) : lo h h := fun _ _ => rfl
theorem hi_r (h : Hp) : hi h h := fun _ _ => rfl
theorem lo_kp {h h' : Hp} {a b : Nat} (k : kp h h' a b) (ha : a < 46) (hb : b < 46) : lo h h' := fun j hj => k j (by omega) (by omega)
theorem lo_t {h h1 h2 : Hp} (x : lo h h1) (y : lo h1 h2) : lo h h2 := fun j q => (y j q).trans (x j q)
theorem hi_t {h h1 h2 : Hp} (x : hi h h1) (y : hi h1 h2) : hi h h2 := fun j q => (y j q).trans (x j q)
theorem hi_up (h : Hp) {i : Nat} (k : Nat) (v : Int32) (hi' : 46 ≤ i) : hi h (up2 h i k v) := fun j hj => up2_ne h k v (by omega)
theorem lo_up (h : Hp) {i : Nat} (k : Nat) (v : Int32) (hi' : i < 46) : lo h (up2 h i k v) := fun j hj => up2_ne h k v (by omega)
theorem SR_lo {h h' : Hp} {s : St} (H : SR h s) (k : lo h h') : SR h' s := by
  obtain ⟨⟨a1, a2⟩, b, c, d, e⟩ := H
  refine ⟨⟨by rw [k 46 (by omega)]; exact a1, fun q hq => by rw [k 47 (by omega)]; exact a2 q hq⟩, fun r hr => ⟨by rw [k 49 (by omega)]; exact (b r hr).1, fun q hq => by rw [k 48 (by omega)]; exact (b r hr).2 q hq⟩, by rw [k 46 (by omega)]; exact c, by rw [k 46 (by omega)]; exact d, by rw [k 46 (by omega)]; exact e⟩
theorem SC_hi {h h' : Hp} {s : St} (H : SC h s) (k : hi h h') : SC h' s := by
  obtain ⟨a, b, c, d, e⟩ := H
  exact ⟨isL_eq a (k 1 (by omega)) (k 2 (by omega)), fun r hr => isL_eq (b r hr) (k _ (by omega)) (k _ (by omega)), by rw [k 0 (by omega)]; exact c, by rw [k 0 (by omega)]; exact d, by rw [k 0 (by omega)]; exact e⟩
theorem bl_reg {r : Nat} : bl (4 + 2 * r + 1) = 200 := by unfold bl; rw [if_neg (by omega)]
theorem okB_app {a b : List Nat} {n : Nat} (ha : okB a n) (hb : okB b n) (hl : a.length + b.length ≤ n) : okB (a ++ b) n := by
  refine ⟨by rw [List.length_append]; omega, fun k hk => ?_⟩
  rw [List.length_append] at hk
  by_cases q : k < a.length
  · rw [gD_l q]; exact ha.2 k q
  · rw [gD_r (by omega)]; exact hb.2 _ (by omega)
theorem okB_four (v : Int32) : okB (four v) 240 := by
  refine ⟨by simp [four], fun k hk => ?_⟩
  have : k < 4 := hk
  rcases (show k = 0 ∨ k = 1 ∨ k = 2 ∨ k = 3 by omega) with rfl | rfl | rfl | rfl <;> exact bN_lt _ _
theorem four_len (v : Int32) : (four v).length = 4 := rfl
-- ===== feed =====
def sp_feed (a b c d e : Int32) (s : St) : Int32 × St := if s.1.length + 20 ≤ 240 then (iI ((s.1.length + 20 : Nat) : Int), (s.1 ++ four a ++ four b ++ four c ++ four d ++ four e, s.2)) else (iI (-1), s)
theorem okS_feed {a b c d e : Int32} {s : St} (H : okS s) : okS (sp_feed a b c d e s).2 := by
  unfold sp_feed
  split
  · rename_i q
    obtain ⟨h1, h2⟩ := H
    refine ⟨?_, h2⟩
    exact okB_app (okB_app (okB_app (okB_app (okB_app h1 (okB_four a) (by rw [four_len]; omega)) (okB_four b) (by simp only [List.length_append, four_len]; omega)) (okB_four c) (by simp only [List.length_append, four_len]; omega)) (okB_four d) (by simp only [List.length_append, four_len]; omega)) (okB_four e) (by simp only [List.length_append, four_len]; omega)
  · exact H
theorem C_feed {a b c d e : Int32} {s : St} {h : Hp} (H : SC h s) (ok : okS s) : ∃ h', f_D_feed a b c d e h = some ((sp_feed a b c d e s).1, h') ∧ SC h' (sp_feed a b c d e s).2 ∧ lo h h' := by
  obtain ⟨t, rg, rest⟩ := H
  have hl := ok.1.1
  unfold f_D_feed sp_feed
  rw [t.1]
  simp (disch := omega) only [iI_lit, iI_add, iI_le]
  by_cases q : s.1.length + 20 ≤ 240
  · rw [if_pos (by omega), if_pos q]
    have b2 : bl (1 + 1) = 240 := rfl
    obtain ⟨h1, e1, t1, k1⟩ := L_addInt (v := a) t (by rw [b2]; omega)
    obtain ⟨h2, e2, t2, k2⟩ := L_addInt (v := b) t1 (by simp only [List.length_append, four_len, b2]; omega)
    obtain ⟨h3, e3, t3, k3⟩ := L_addInt (v := c) t2 (by simp only [List.length_append, four_len, b2]; omega)
    obtain ⟨h4, e4, t4, k4⟩ := L_addInt (v := d) t3 (by simp only [List.length_append, four_len, b2]; omega)
    obtain ⟨h5, e5, t5, k5⟩ := L_addInt (v := e) t4 (by simp only [List.length_append, four_len, b2]; omega)
    have k := kp_t (kp_t (kp_t (kp_t k1 k2) k3) k4) k5
    rw [bd_t e1, bd_t e2, bd_t e3, bd_t e4, bd_t e5]
    refine ⟨h5, ?_, ⟨t5, fun r hr => isL_eq (rg r hr) (k _ (by omega) (by omega)) (k _ (by omega) (by omega)), ?_⟩, lo_kp k (by omega) (by omega)⟩
    · rw [t5.1]
      simp only [List.length_append, four_len]
    · rw [k 0 (by omega) (by omega)]
      exact rest
  · rw [if_neg (by omega), if_neg q, iI_neg]
    exact ⟨h, rfl, ⟨t, rg, rest⟩, lo_r h⟩
/-- the reference's tape grows -/
def kt (h h' : Hp) : Prop := (∀ j, j ≠ 46 → j ≠ 47 → h' j = h j) ∧ ∀ k, k ≠ 1 → h' 46 k = h 46 k
theorem kt_t {h h1 h2 : Hp} (x : kt h h1) (y : kt h1 h2) : kt h h2 := ⟨fun j p q => (y.1 j p q).trans (x.1 j p q), fun k p => (y.2 k p).trans (x.2 k p)⟩
theorem M_one {h : Hp} {bs : List Nat} {b : Nat} {w : Int32} (H : isT h bs) (hl : bs.length < 240) (hw : w = iI (b : Int)) : isT (up2 (up2 h 47 bs.length w) 46 1 (iI ((bs.length : Int) + 1))) (bs ++ [b]) ∧ kt h (up2 (up2 h 47 bs.length w) 46 1 (iI ((bs.length : Int) + 1))) := by
  obtain ⟨h1, h2⟩ := H
  refine ⟨⟨?_, fun k hk => ?_⟩, fun j p q => ?_, fun k p => ?_⟩
  · rw [up2_s, List.length_append]
    simp
  · rw [up2_o _ _ _ _ (by omega)]
    rw [List.length_append] at hk
    simp at hk
    by_cases q : k < bs.length
    · rw [gD_l q, up2_k _ _ _ (by omega)]
      exact h2 k q
    · rw [gD_r (by omega), show k = bs.length by omega, up2_s, hw]
      simp
  · rw [up2_ne _ _ _ p, up2_ne _ _ _ q]
  · rw [up2_k _ _ _ p, up2_o _ _ _ _ (by omega)]
theorem M_step {n : Nat} {v : Int32} {k : Nat} {h : Hp} {bs : List Nat} (H : isT h bs) (hl : bs.length < 240) (hk : k ≤ 24) : ∃ h', f_M_four_3 (n + 1) v (nI k) h = f_M_four_3 n v (nI k + (-8)) h' ∧ isT h' (bs ++ [bN v k]) ∧ kt h h' := by
  have e0 : (up2 h 47 bs.length ((v >>> (nI k &&& 31)) &&& 255)) 46 1 = iI (bs.length : Int) := by rw [up2_o _ _ _ _ (by omega)]; exact H.1
  obtain ⟨a, b⟩ := M_one (w := (v >>> (nI k &&& 31)) &&& 255) (b := bN v k) H hl (bN_s v k)
  refine ⟨_, ?_, a, b⟩
  rw [f_M_four_3, if_neg (nI_pos (by omega)), H.1, chk_t (iI_inR (by omega) (by omega) (by omega)), iI_cl (by omega) (by omega), Int.toNat_natCast, e0, i1, iI_add]
theorem M_four {h : Hp} {bs : List Nat} {v : Int32} (H : isT h bs) (hl : bs.length + 4 ≤ 240) : ∃ h', f_M_four v h = some ((), h') ∧ isT h' (bs ++ four v) ∧ kt h h' := by
  obtain ⟨h1, e1, t1, k1⟩ := M_step (n := 999999) (v := v) (k := 24) H (by omega) (by omega)
  obtain ⟨h2, e2, t2, k2⟩ := M_step (n := 999998) (v := v) (k := 16) t1 (by rw [List.length_append]; simp; omega) (by omega)
  obtain ⟨h3, e3, t3, k3⟩ := M_step (n := 999997) (v := v) (k := 8) t2 (by simp only [List.length_append]; simp; omega) (by omega)
  obtain ⟨h4, e4, t4, k4⟩ := M_step (n := 999996) (v := v) (k := 0) t3 (by simp only [List.length_append]; simp; omega) (by omega)
  refine ⟨h4, ?_, ?_, kt_t (kt_t (kt_t k1 k2) k3) k4⟩
  · unfold f_M_four
    rw [show fuel = 999999 + 1 from rfl, show (24 : Int32) = nI 24 from rfl, e1, show nI 24 + (-8) = nI 16 by decide, e2, show nI 16 + (-8) = nI 8 by decide, e3, show nI 8 + (-8) = nI 0 by decide, e4, show (999996 : Nat) = 999995 + 1 from rfl, f_M_four_3, if_pos (by decide)]
  · have : bs ++ four v = (((bs ++ [bN v 24]) ++ [bN v 16]) ++ [bN v 8]) ++ [bN v 0] := by simp [four]
    rw [this]
    exact t4
theorem hi_kt {h h' : Hp} (k : kt h h') : hi h h' := fun j hj => k.1 j (by omega) (by omega)
theorem SR_kt {h h' : Hp} {s : St} {t : List Nat} (H : SR h s) (k : kt h h') (ht : isT h' t) : SR h' (t, s.2) := by
  obtain ⟨-, b, c, d, e⟩ := H
  exact ⟨ht, fun r hr => ⟨by rw [k.1 49 (by omega) (by omega)]; exact (b r hr).1, fun q hq => by rw [k.1 48 (by omega) (by omega)]; exact (b r hr).2 q hq⟩, (k.2 4 (by omega)).trans c, (k.2 5 (by omega)).trans d, (k.2 6 (by omega)).trans e⟩
theorem M_feed {a b c d e : Int32} {s : St} {h : Hp} (H : SR h s) (ok : okS s) : ∃ h', f_M_feed a b c d e h = some ((sp_feed a b c d e s).1, h') ∧ SR h' (sp_feed a b c d e s).2 ∧ hi h h' := by
  have t := H.1
  have hl := ok.1.1
  unfold f_M_feed sp_feed
  rw [t.1]
  simp (disch := omega) only [iI_lit, iI_add, iI_le]
  by_cases q : s.1.length + 20 ≤ 240
  · rw [if_pos (by omega), if_pos q]
    obtain ⟨h1, e1, t1, k1⟩ := M_four (v := a) t (by omega)
    obtain ⟨h2, e2, t2, k2⟩ := M_four (v := b) t1 (by simp only [List.length_append, four_len]; omega)
    obtain ⟨h3, e3, t3, k3⟩ := M_four (v := c) t2 (by simp only [List.length_append, four_len]; omega)
    obtain ⟨h4, e4, t4, k4⟩ := M_four (v := d) t3 (by simp only [List.length_append, four_len]; omega)
    obtain ⟨h5, e5, t5, k5⟩ := M_four (v := e) t4 (by simp only [List.length_append, four_len]; omega)
    have k := kt_t (kt_t (kt_t (kt_t k1 k2) k3) k4) k5
    rw [bd_t e1, bd_t e2, bd_t e3, bd_t e4, bd_t e5]
    refine ⟨h5, ?_, SR_kt H k t5, hi_kt k⟩
    rw [t5.1]
    simp only [List.length_append, four_len]
  · rw [if_neg (by omega), if_neg q, iI_neg]
    exact ⟨h, rfl, H, hi_r h⟩
