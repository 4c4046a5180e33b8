/-! PURE 14: scratch cells; answers; turn, whole, about -/
def fr (h h' : Hp) : Prop := ∀ j, j < 24 ∨ 46 ≤ j → h' j = h j
theorem fr_r (h : Hp) : fr h h := fun _ _ => rfl
theorem fr_t {h h1 h2 : Hp} (x : fr h h1) (y : fr h1 h2) : fr h h2 := fun j q => (y j q).trans (x j q)
theorem lo_fr {h h' : Hp} (x : fr h h') : lo h h' := fun j q => x j (Or.inr q)
theorem SC_fr {h h' : Hp} {s : St} (H : SC h s) (k : fr h h') : SC h' s := by
  obtain ⟨a, b, c, d, e⟩ := H
  exact ⟨isL_eq a (k 1 (by omega)) (k 2 (by omega)), fun r hr => isL_eq (b r hr) (k _ (by omega)) (k _ (by omega)), by rw [k 0 (by omega)]; exact c, by rw [k 0 (by omega)]; exact d, by rw [k 0 (by omega)]; exact e⟩
theorem fr_kr {h h' : Hp} {i : Nat} (h1 : 24 ≤ i) (h2 : i < 45) (x : kr h h' i) : fr h h' := fun j q => x j (by omega) (by omega) (by omega)
theorem fr_kp {h h' : Hp} {a b : Nat} (h1 : 24 ≤ a) (h2 : a < 46) (h3 : 24 ≤ b) (h4 : b < 46) (x : kp h h' a b) : fr h h' := fun j q => x j (by omega) (by omega)
theorem fr_up (h : Hp) {i : Nat} (k : Nat) (v : Int32) (h1 : 24 ≤ i) (h2 : i < 46) : fr h (up2 h i k v) := fun j q => up2_ne _ _ _ (by omega)
def fw (h h' : Hp) : Prop := (∀ j, j < 50 → j ≠ 46 → h' j = h j) ∧ ∀ k, k ≠ 13 → h' 46 k = h 46 k
theorem fw_r (h : Hp) : fw h h := ⟨fun _ _ _ => rfl, fun _ _ => rfl⟩
theorem fw_t {h h1 h2 : Hp} (x : fw h h1) (y : fw h1 h2) : fw h h2 := ⟨fun j p q => (y.1 j p q).trans (x.1 j p q), fun k p => (y.2 k p).trans (x.2 k p)⟩
theorem hi_fw {h h' : Hp} (x : fw h h') : hi h h' := fun j q => x.1 j (by omega) (by omega)
theorem fw_km {h h' : Hp} {z : Nat} (x : km h h' z) : fw h h' := ⟨fun j p _ => x.1 j (by omega) (by omega) (by omega) (by omega), fun k _ => by rw [x.1 46 (by omega) (by omega) (by omega) (by omega)]⟩
theorem fw_kw {h h' : Hp} (x : kw h h') : fw h h' := ⟨fun j p q => x.1 j q (by omega), x.2⟩
theorem SR_fw {h h' : Hp} {s : St} (H : SR h s) (k : fw h h') : SR h' s := by
  obtain ⟨⟨a1, a2⟩, b, c, d, e⟩ := H
  refine ⟨⟨by rw [k.2 1 (by omega)]; exact a1, fun q hq => by rw [k.1 47 (by omega) (by omega)]; exact a2 q hq⟩, fun r hr => ⟨by rw [k.1 49 (by omega) (by omega)]; exact (b r hr).1, fun q hq => by rw [k.1 48 (by omega) (by omega)]; exact (b r hr).2 q hq⟩, by rw [k.2 4 (by omega)]; exact c, by rw [k.2 5 (by omega)]; exact d, by rw [k.2 6 (by omega)]; exact e⟩
theorem oq_y {β : Type} {r : Int} {a : Option β} {b : Nat → Option β} (q : isReg r) : oq (if isReg r then some (4 + 2 * r.toNat) else none) a (fun j => chk (cLine j) (b j)) = b (4 + 2 * r.toNat) := by
  rw [if_pos q]
  exact chk_t (cLine_reg (by omega))
theorem oq_n {β : Type} {r : Int} {a : Option β} {b : Nat → Option β} (q : ¬ isReg r) : oq (if isReg r then some (4 + 2 * r.toNat) else none) a b = a := by rw [if_neg q]; rfl
-- ===== keeping =====
def sp_keep (T : List Nat) (r : Nat) (s : St) : Int32 × St := (iI (T.length : Int), (s.1, setR s.2.1 r T, s.2.2))
theorem okS_keep {T : List Nat} {r : Nat} {s : St} (H : okS s) (hT : okB T 200) : okS (sp_keep T r s).2 := by
  refine ⟨H.1, fun k hk => ?_, H.2.2⟩
  show okB (setR s.2.1 r T k) 200
  unfold setR
  split
  · exact hT
  · exact H.2.1 k hk
theorem isL_ok {h : Hp} {T : List Nat} (H : isL h 24 T) : okB T 200 := ⟨H.2.1, H.2.2.1⟩
theorem C_keep {r : Nat} {T : List Nat} {s : St} {h : Hp} (hr : r < 10) (H : SC h s) (L : isL h 24 T) : ∃ h', f_D_keepPage (4 + 2 * r) h = some ((sp_keep T r s).1, h') ∧ SC h' (sp_keep T r s).2 ∧ lo h h' := by
  obtain ⟨t, rg, rest⟩ := H
  have hT := L.2.1
  obtain ⟨h1, e1, H1, k1⟩ := L_copy (i := 4 + 2 * r) (by omega) (by omega) (by omega) L (by rw [bl_reg]; exact hT)
  unfold f_D_keepPage
  rw [bd_t e1]
  refine ⟨h1, by rw [H1.1]; rfl, ⟨isL_eq t (k1 1 (by omega) (by omega)) (k1 2 (by omega) (by omega)), fun k hk => ?_, by rw [k1 0 (by omega) (by omega)]; exact rest⟩, lo_kp k1 (by omega) (by omega)⟩
  show isL _ _ (setR s.2.1 r T k)
  unfold setR
  by_cases z : k = r
  · rw [if_pos z, z]; exact H1
  · rw [if_neg z]
    exact isL_eq (rg k hk) (k1 _ (by omega) (by omega)) (k1 _ (by omega) (by omega))
theorem M_keep_loop {r : Nat} {T : List Nat} (hr : r < 10) (hl : T.length ≤ 200) : ∀ (m k n : Nat) (h : Hp), k + m = T.length → m < n → isW h T → (∀ q, q < k → h 48 (200 * r + q) = iI (T.getD q 0 : Int)) → ∃ h', f_M_keep_12 n (iI (r : Int)) (iI (k : Int)) h = some (iI (T.length : Int), h') ∧ (∀ q, q < T.length → h' 48 (200 * r + q) = iI (T.getD q 0 : Int)) ∧ (∀ q, q < 200 * r ∨ 200 * r + 200 ≤ q → h' 48 q = h 48 q) ∧ ∀ j, j ≠ 48 → h' j = h j := by
  intro m
  induction m with
  | zero =>
    intro k n h hk hn W Hk
    obtain ⟨n, rfl⟩ : ∃ q, n = q + 1 := ⟨n - 1, by omega⟩
    rw [f_M_keep_12, W.1, if_pos (by rw [iI_le ⟨by omega, by omega⟩ ⟨by omega, by omega⟩]; omega)]
    exact ⟨h, rfl, fun q hq => Hk q (by omega), fun _ _ => rfl, fun _ _ => rfl⟩
  | succ m ih =>
    intro k n h hk hn W Hk
    obtain ⟨n, rfl⟩ : ∃ q, n = q + 1 := ⟨n - 1, by omega⟩
    have ea : (200 : Int32) * iI (r : Int) + iI (k : Int) = iI ((200 * r + k : Nat) : Int) := by rw [show (200 : Int32) = iI 200 from rfl, iI_mul, iI_add]; congr 1
    rw [f_M_keep_12, W.1, if_neg (by rw [iI_le ⟨by omega, by omega⟩ ⟨by omega, by omega⟩]; omega), chk_t (iI_inR (by omega) (by omega) (by omega)), ea, chk_t (inB hr (by omega)), clN (by omega), clN (by omega), W.2 k (by omega) (by omega), scN]
    obtain ⟨h', e, a, b, c⟩ := ih (k + 1) n (up2 h 48 (200 * r + k) (iI (T.getD k 0 : Int))) (by omega) (by omega) ⟨by rw [up2_o _ _ _ _ (by omega)]; exact W.1, fun q hq hq2 => by rw [up2_o _ _ _ _ (by omega)]; exact W.2 q hq hq2⟩ (fun q hq => by
      by_cases z : q = k
      · rw [z, up2_s]
      · rw [up2_k _ _ _ (by omega)]
        exact Hk q (by omega))
    exact ⟨h', e, a, fun q hq => by rw [b q hq, up2_k _ _ _ (by omega)], fun j hj => by rw [c j hj, up2_ne _ _ _ hj]⟩
theorem M_keep {r : Nat} {T : List Nat} {s : St} {h : Hp} (hr : r < 10) (H : SR h s) (ok : okS s) (W : isW h T) (hl : T.length ≤ 200) : ∃ h', f_M_keep (iI (r : Int)) h = some ((sp_keep T r s).1, h') ∧ SR h' (sp_keep T r s).2 ∧ hi h h' := by
  obtain ⟨t, rg, d1, d2, d3⟩ := H
  unfold f_M_keep
  rw [chk_t (iI_inR (by omega) (by omega) (by omega)), clN (by omega), W.1]
  obtain ⟨h', e, a, b, c⟩ := M_keep_loop (T := T) hr hl T.length 0 fuel (up2 h 49 r (iI (T.length : Int))) (by omega) (by unfold fuel; omega) ⟨by rw [up2_o _ _ _ _ (by omega)]; exact W.1, fun q hq hq2 => by rw [up2_o _ _ _ _ (by omega)]; exact W.2 q hq hq2⟩ (fun q hq => by omega)
  refine ⟨h', e, ⟨⟨?_, fun k hk => ?_⟩, fun k hk => ?_, ?_, ?_, ?_⟩, fun j hj => ?_⟩
  · rw [c 46 (by omega), up2_o _ _ _ _ (by omega)]; exact t.1
  · rw [c 47 (by omega), up2_o _ _ _ _ (by omega)]; exact t.2 k hk
  · show isR _ _ (setR s.2.1 r T k)
    unfold setR
    by_cases z : k = r
    · rw [if_pos z, z]
      exact ⟨by rw [c 49 (by omega), up2_s], a⟩
    · rw [if_neg z]
      have l2 := (ok.2.1 k hk).1
      refine ⟨by rw [c 49 (by omega), up2_k _ _ _ z]; exact (rg k hk).1, fun q hq => ?_⟩
      rw [b _ (by omega), up2_o _ _ _ _ (by omega)]
      exact (rg k hk).2 q hq
  · rw [c 46 (by omega), up2_o _ _ _ _ (by omega)]; exact d1
  · rw [c 46 (by omega), up2_o _ _ _ _ (by omega)]; exact d2
  · rw [c 46 (by omega), up2_o _ _ _ _ (by omega)]; exact d3
  · rw [c j (by omega), up2_ne _ _ _ (by omega)]
/-- a result is written into register r -/
def sp_ans (t : Int × Nat × Int) (r : Nat) (s : St) : Int32 × St := match wrT s.2.2.1 s.2.2.2.2 t with
  | none => (iI (-42), s)
  | some T => sp_keep T r s
theorem C_ans {i r : Nat} {t : Int × Nat × Int} {s : St} {h : Hp} (hi : 28 < i) (hr : r < 10) (H : SC h s) (ok : okS s) (okt : okN 100000000 20 t) (N : isN h i t.1 t.2.1 t.2.2) : ∃ h', f_D_write i (4 + 2 * r) h = some ((sp_ans t r s).1, h') ∧ SC h' (sp_ans t r s).2 ∧ okS (sp_ans t r s).2 ∧ lo h h' := by
  obtain ⟨h1, e1, k1, w1⟩ := C_wr (fm := s.2.2.2.2) (dgs := s.2.2.1) hi (by have := ok.2.2.1; omega) ok.2.2.2.1 ok.2.2.2.2.2 okt N
  have f1 : fr h h1 := fr_kp (by omega) (by omega) (by omega) (by omega) k1
  unfold f_D_write sp_ans
  rw [H.2.2.1, H.2.2.2.2, bd_t e1]
  cases hx : wrT s.2.2.1 s.2.2.2.2 t with
  | none =>
    rw [if_neg (by simp; decide)]
    exact ⟨h1, by simp; rfl, SC_fr H f1, ok, lo_fr f1⟩
  | some T =>
    rw [if_pos (by simp; rfl)]
    obtain ⟨h2, e2, S2, l2⟩ := C_keep hr (SC_fr H f1) (w1 T hx)
    rw [bd_t e2]
    exact ⟨h2, rfl, S2, okS_keep ok (isL_ok (w1 T hx)), lo_t (lo_fr f1) l2⟩
theorem M_ans {z r : Nat} {t : Int × Nat × Int} {s : St} {h : Hp} (hz : z < 5) (hr : r < 10) (H : SR h s) (ok : okS s) (okt : okN 100000000 20 t) (M : isM h z t.1 t.2.1 t.2.2) (ok2 : okS (sp_ans t r s).2) : ∃ h', f_M_answer (iI (z : Int)) (iI (r : Int)) h = some ((sp_ans t r s).1, h') ∧ SR h' (sp_ans t r s).2 ∧ hi h h' := by
  obtain ⟨h1, e1, k1, w1⟩ := M_wr (fm := s.2.2.2.2) (dgs := s.2.2.1) hz (by have := ok.2.2.1; omega) ok.2.2.2.1 ok.2.2.2.2.2 H.2.2.1 H.2.2.2.2 okt M
  unfold f_M_answer
  rw [bd_t e1]
  unfold sp_ans at ok2 ⊢
  cases hx : wrT s.2.2.1 s.2.2.2.2 t with
  | none =>
    rw [if_neg (by simp; decide)]
    exact ⟨h1, by simp; rfl, SR_fw H (fw_kw k1), hi_fw (fw_kw k1)⟩
  | some T =>
    rw [hx] at ok2
    have hl : T.length ≤ 200 := by
      have := (ok2.2.1 r hr).1
      have e : (sp_keep T r s).2.2.1 r = T := by show setR s.2.1 r T r = T; unfold setR; rw [if_pos rfl]
      rw [e] at this
      exact this
    rw [if_pos (by simp; decide)]
    obtain ⟨h2, e2, S2, l2⟩ := M_keep hr (SR_fw H (fw_kw k1)) ok (w1 T hx) hl
    rw [bd_t e2]
    exact ⟨h2, rfl, S2, hi_t (hi_fw (fw_kw k1)) l2⟩
theorem okN_w {b n b' n' : Nat} {t : Int × Nat × Int} (H : okN b n t) (h1 : b ≤ b') (h2 : n ≤ n') : okN b' n' t := by
  obtain ⟨a, b1, c, d, e, f⟩ := H
  exact ⟨a, b1, c, by omega, by omega, by omega⟩
/-- read and round, the reference's way -/
theorem M_load {r z n : Nat} {bs : List Nat} {h : Hp} (hr : r < 10) (hz : z < 5) (hn : 0 < n) (hn2 : n ≤ 20) (R : isR h r bs) (ok : okB bs 200) : ∃ h1, f_M_read (iI (r : Int)) (iI (z : Int)) h = some (iI (if ldN n bs = none then 0 else 1), h1) ∧ km h h1 z ∧ ∀ t, ldN n bs = some t → ∃ h2, f_M_round (iI (z : Int)) (iI (n : Int)) h1 = some ((), h2) ∧ km h1 h2 z ∧ isM h2 z t.1 t.2.1 t.2.2 := by
  obtain ⟨h1, e1, k1, m1⟩ := M_read hr hz R ok
  refine ⟨h1, ?_, k1, fun t ht => ?_⟩
  · rw [e1]
    unfold ldN
    cases rdN bs with
    | none => rfl
    | some u => rfl
  · unfold ldN at ht
    cases hx : rdN bs with
    | none => rw [hx] at ht; cases ht
    | some u =>
      rw [hx] at ht
      have := (Option.some.inj ht).symm
      subst this
      obtain ⟨h2, e2, m2, k2⟩ := M_round hz (m1 u hx) hn (by omega)
      exact ⟨h2, e2, k2, m2⟩
-- ===== turn =====
def tn (op : Int) (t : Int × Nat × Int) : Int × Nat × Int := if op = 1 then (-t.1, t.2.1, t.2.2) else if op = 2 then (if t.1 < 0 then 1 else t.1, t.2.1, t.2.2) else if op = 3 then (t.1, if t.1 = 0 then 0 else 1, 0) else t
theorem tn_ok {op : Int} {t : Int × Nat × Int} {n : Nat} (hn : 0 < n) (H : okN 1501 n t) : okN 1501 n (tn op t) := by
  obtain ⟨a, b, c, d, e, f⟩ := H
  unfold tn
  split
  · exact ⟨by show isS (-t.1); unfold isS at a ⊢; omega, by show -t.1 = 0 ↔ t.2.1 = 0; rw [← b]; omega, c, d, e, f⟩
  · split
    · refine ⟨?_, ?_, c, d, e, f⟩
      · show isS (if t.1 < 0 then 1 else t.1)
        unfold isS at a ⊢
        split <;> omega
      · show (if t.1 < 0 then 1 else t.1) = 0 ↔ t.2.1 = 0
        rw [← b]
        split <;> omega
    · split
      · refine ⟨a, ?_, fun _ => rfl, by show _ ≤ (0 : Int); omega, by show (0 : Int) ≤ _; omega, ?_⟩
        · show t.1 = 0 ↔ (if t.1 = 0 then 0 else 1) = 0
          split <;> omega
        · show nd (if t.1 = 0 then 0 else 1) ≤ n
          split
          · rw [nd_0]; omega
          · rw [nd_1]; omega
      · exact ⟨a, b, c, d, e, f⟩
def sp_turn (op a b : Int) (s : St) : Int32 × St := if isReg a ∧ isReg b ∧ 0 ≤ op ∧ op ≤ 3 then (match ldN s.2.2.1 (s.2.1 a.toNat) with
  | none => (iI (-41), s)
  | some t => sp_ans (tn op t) b.toNat s) else (iI (-1), s)
theorem C_turn {op a b : Int} {s : St} {h : Hp} (ho : bI op) (ha : bI a) (hb : bI b) (H : SC h s) (ok : okS s) : ∃ h', f_D_turn (iI op) (iI a) (iI b) h = some ((sp_turn op a b s).1, h') ∧ SC h' (sp_turn op a b s).2 ∧ okS (sp_turn op a b s).2 ∧ lo h h' := by
  have bad : ¬ (isReg a ∧ isReg b ∧ 0 ≤ op ∧ op ≤ 3) → ∃ h', some ((-1 : Int32), h) = some ((sp_turn op a b s).1, h') ∧ SC h' (sp_turn op a b s).2 ∧ okS (sp_turn op a b s).2 ∧ lo h h' := fun q => by
    unfold sp_turn
    rw [if_neg q]
    exact ⟨h, rfl, H, ok, lo_r _⟩
  unfold f_D_turn
  rw [bd_t (C_find ha), bd_t (C_find hb)]
  by_cases q1 : op < 0
  · rw [if_pos (by rw [i0, iI_lt ⟨by omega, by omega⟩ ⟨by omega, by omega⟩]; exact q1)]; exact bad (by omega)
  rw [if_neg (by rw [i0, iI_lt ⟨by omega, by omega⟩ ⟨by omega, by omega⟩]; exact q1)]
  by_cases q2 : 3 < op
  · rw [if_pos (by rw [show (3 : Int32) = iI 3 from rfl, iI_lt ⟨by omega, by omega⟩ ⟨by omega, by omega⟩]; exact q2)]; exact bad (by omega)
  rw [if_neg (by rw [show (3 : Int32) = iI 3 from rfl, iI_lt ⟨by omega, by omega⟩ ⟨by omega, by omega⟩]; exact q2)]
  by_cases q3 : ¬ isReg a
  · rw [oq_n q3]; exact bad (by omega)
  have q3 := Decidable.not_not.mp q3
  rw [oq_y q3]
  by_cases q4 : ¬ isReg b
  · rw [oq_n q4]; exact bad (by omega)
  have q4 := Decidable.not_not.mp q4
  rw [oq_y q4]
  unfold sp_turn
  rw [if_pos (show isReg a ∧ isReg b ∧ 0 ≤ op ∧ op ≤ 3 by omega), H.2.2.1]
  have hd := ok.2.2
  obtain ⟨h1, e1, k1, n1⟩ := C_load (i := 4 + 2 * a.toNat) (j := 29) (n := s.2.2.1) (by omega) (by omega) (ok.2.1 a.toNat (by omega)).1 rfl (by omega) (by omega) (H.2.1 a.toNat (by omega))
  rw [bd_t e1]
  have f1 : fr h h1 := fr_kr (by omega) (by omega) k1
  cases hx : ldN s.2.2.1 (s.2.1 a.toNat) with
  | none =>
    rw [if_pos (by simp; decide)]
    exact ⟨h1, rfl, SC_fr H f1, ok, lo_fr f1⟩
  | some t =>
    rw [if_neg (by simp; decide)]
    have N := n1 t hx
    have okt := ldN_ok (n := s.2.2.1) (by omega) (ok.2.1 a.toNat (by omega)).1 hx
    have okt2 := okN_w (tn_ok (op := op) (by omega) okt) (show 1501 ≤ 100000000 by omega) (show s.2.2.1 ≤ 20 by omega)
    have fin : ∀ g : Hp, fr h1 g → isN g 29 (tn op t).1 (tn op t).2.1 (tn op t).2.2 → ∃ h', bd (f_D_write 29 (4 + 2 * b.toNat) g) (fun r129 h129 => some (r129, h129)) = some ((sp_ans (tn op t) b.toNat s).1, h') ∧ SC h' (sp_ans (tn op t) b.toNat s).2 ∧ okS (sp_ans (tn op t) b.toNat s).2 ∧ lo h h' := by
      intro g fg Ng
      have f2 := fr_t f1 fg
      obtain ⟨h2, e2, S2, o2, l2⟩ := C_ans (i := 29) (r := b.toNat) (by omega) (by omega) (SC_fr H f2) ok okt2 Ng
      rw [bd_t e2]
      exact ⟨h2, rfl, S2, o2, lo_t (lo_fr f2) l2⟩
    have up3 : ∀ v : Int, fr h1 (up2 h1 29 3 (iI v)) ∧ isN (up2 h1 29 3 (iI v)) 29 v t.2.1 t.2.2 := fun v => ⟨fr_up _ _ _ (by omega) (by omega), isD_eq N.1 (up2_k _ _ _ (by omega)) (up2_ne _ _ _ (by omega)), by rw [up2_k _ _ _ (by omega)]; exact N.2.1, up2_s _ _ _ _⟩
    have hs := okt.1
    rw [N.2.2, iI_neg]
    by_cases o1 : op = 1
    · rw [if_pos (by rw [o1]; rfl)]
      refine fin _ (up3 _).1 ?_
      have : tn op t = (-t.1, t.2.1, t.2.2) := by unfold tn; rw [if_pos o1]
      rw [this]
      exact (up3 _).2
    rw [if_neg (by rw [i1, iI_eq ⟨by omega, by omega⟩ ⟨by omega, by omega⟩]; exact o1)]
    by_cases o2 : op = 2
    · rw [if_pos (by rw [o2]; rfl)]
      have e3 : (if 0 ≤ iI t.1 then iI t.1 else 0 - iI t.1) = iI (if t.1 < 0 then 1 else t.1) := by
        rw [abs_iI (by unfold isS at hs; omega)]
        congr 1
        unfold isS at hs
        split <;> omega
      have : tn op t = (if t.1 < 0 then 1 else t.1, t.2.1, t.2.2) := by unfold tn; rw [if_neg o1, if_pos o2]
      rw [e3]
      refine fin _ (up3 _).1 ?_
      rw [this]
      exact (up3 _).2
    rw [if_neg (by rw [show (2 : Int32) = iI 2 from rfl, iI_eq ⟨by omega, by omega⟩ ⟨by omega, by omega⟩]; exact o2)]
    by_cases o3 : op = 3
    · rw [if_pos (by rw [o3]; rfl)]
      obtain ⟨h3, e3, N3, k3⟩ := N_unit (h := h1) (i := 29) (s := t.1) (by decide) (by unfold isS at hs; omega)
      rw [bd_t e3]
      refine fin h3 (fr_kp (by omega) (by omega) (by omega) (by omega) k3) ?_
      have : tn op t = (t.1, if t.1 = 0 then 0 else 1, 0) := by unfold tn; rw [if_neg o1, if_neg o2, if_pos o3]
      rw [this]
      exact N3
    rw [if_neg (by rw [show (3 : Int32) = iI 3 from rfl, iI_eq ⟨by omega, by omega⟩ ⟨by omega, by omega⟩]; exact o3)]
    refine fin h1 (fr_r _) ?_
    have : tn op t = t := by unfold tn; rw [if_neg o1, if_neg o2, if_neg o3]
    rw [this]
    exact N
theorem M_turn {op a b : Int} {s : St} {h : Hp} (ho : bI op) (ha : bI a) (hb : bI b) (H : SR h s) (ok : okS s) (ok2 : okS (sp_turn op a b s).2) : ∃ h', f_M_turn (iI op) (iI a) (iI b) h = some ((sp_turn op a b s).1, h') ∧ SR h' (sp_turn op a b s).2 ∧ hi h h' := by
  have bad : ¬ (isReg a ∧ isReg b ∧ 0 ≤ op ∧ op ≤ 3) → ∃ h', some ((-1 : Int32), h) = some ((sp_turn op a b s).1, h') ∧ SR h' (sp_turn op a b s).2 ∧ hi h h' := fun q => by
    unfold sp_turn
    rw [if_neg q]
    exact ⟨h, rfl, H, hi_r _⟩
  unfold f_M_turn
  rw [bd_t (M_isReg ha)]
  by_cases q3 : ¬ isReg a
  · rw [if_neg q3, if_pos (by rfl)]; exact bad (by omega)
  have q3 := Decidable.not_not.mp q3
  rw [if_pos q3, if_neg (by decide), bd_t (M_isReg hb)]
  by_cases q4 : ¬ isReg b
  · rw [if_neg q4, if_pos (by rfl)]; exact bad (by omega)
  have q4 := Decidable.not_not.mp q4
  rw [if_pos q4, if_neg (by decide)]
  by_cases q1 : op < 0
  · rw [if_pos (by rw [i0, iI_lt ⟨by omega, by omega⟩ ⟨by omega, by omega⟩]; exact q1)]; exact bad (by omega)
  rw [if_neg (by rw [i0, iI_lt ⟨by omega, by omega⟩ ⟨by omega, by omega⟩]; exact q1)]
  by_cases q2 : ¬ op ≤ 3
  · rw [if_neg (by rw [show (3 : Int32) = iI 3 from rfl, iI_le ⟨by omega, by omega⟩ ⟨by omega, by omega⟩]; exact q2)]; exact bad (by omega)
  have q2 := Decidable.not_not.mp q2
  rw [if_pos (by rw [show (3 : Int32) = iI 3 from rfl, iI_le ⟨by omega, by omega⟩ ⟨by omega, by omega⟩]; exact q2)]
  unfold sp_turn at ok2 ⊢
  rw [if_pos (show isReg a ∧ isReg b ∧ 0 ≤ op ∧ op ≤ 3 by omega)] at ok2 ⊢
  have hd := ok.2.2
  obtain ⟨a, rfl⟩ : ∃ k : Nat, a = k := ⟨a.toNat, by omega⟩
  obtain ⟨b, rfl⟩ : ∃ k : Nat, b = k := ⟨b.toNat, by omega⟩
  rw [Int.toNat_natCast, Int.toNat_natCast] at ok2 ⊢
  obtain ⟨h1, e1, k1, m1⟩ := M_load (n := s.2.2.1) (z := 0) (r := a) (by omega) (by omega) (by omega) (by omega) (H.2.1 a (by omega)) (ok.2.1 a (by omega))
  rw [bd_t (show f_M_read (iI (a : Int)) 0 h = _ from e1)]
  cases hx : ldN s.2.2.1 (s.2.1 a) with
  | none =>
    rw [if_pos (by simp; decide)]
    exact ⟨h1, rfl, SR_fw H (fw_km k1), hi_fw (fw_km k1)⟩
  | some t =>
    rw [if_neg (by simp; decide)]
    rw [hx] at ok2
    have okt := ldN_ok (n := s.2.2.1) (by omega) (ok.2.1 a (by omega)).1 hx
    have okt2 := okN_w (tn_ok (op := op) (by omega) okt) (show 1501 ≤ 100000000 by omega) (show s.2.2.1 ≤ 20 by omega)
    obtain ⟨h2, e2, k2, M2⟩ := m1 t hx
    have f2 : fw h h2 := fw_t (fw_km k1) (fw_km k2)
    have e4 : h1 46 4 = iI (s.2.2.1 : Int) := (SR_fw H (fw_km k1)).2.2.1
    rw [e4, bd_t (show f_M_round 0 (iI (s.2.2.1 : Int)) h1 = _ from e2)]
    have hs := okt.1
    have fin : ∀ g : Hp, km h2 g 0 → isM g 0 (tn op t).1 (tn op t).2.1 (tn op t).2.2 → ∃ h', bd (f_M_answer 0 (iI (b : Int)) g) (fun r136 h136 => some (r136, h136)) = some ((sp_ans (tn op t) b s).1, h') ∧ SR h' (sp_ans (tn op t) b s).2 ∧ hi h h' := by
      intro g kg Mg
      have fg := fw_t f2 (fw_km kg)
      obtain ⟨h3, e3, S3, l3⟩ := M_ans (z := 0) (r := b) (by omega) (by omega) (SR_fw H fg) ok okt2 Mg ok2
      rw [bd_t (show f_M_answer 0 (iI (b : Int)) g = _ from e3)]
      exact ⟨h3, rfl, S3, hi_t (hi_fw fg) l3⟩
    have c5 : inR 0 5 := inz (z := 0) (by omega)
    have cl0 : Int32.toNatClampNeg 0 = 0 := rfl
    have up3 : ∀ (g : Hp) (v w : Int) (c : Nat) (e : Int), isM g 0 w c e → km g (up2 g 53 0 (iI v)) 0 ∧ isM (up2 g 53 0 (iI v)) 0 v c e := fun g v w c e Mg => ⟨km_53 _ _ _, by rw [up2_o _ _ _ _ (by omega)]; exact Mg.1, by rw [up2_o _ _ _ _ (by omega)]; exact Mg.2.1, up2_s _ _ _ _, Mg.2.2.2.1, fun k hk => by rw [up2_o _ _ _ _ (by omega)]; exact Mg.2.2.2.2 k hk⟩
    have t88 : ∀ (g : Hp) (u : Int × Nat × Int), km h2 g 0 → isM g 0 u.1 u.2.1 u.2.2 → isS u.1 → (tn op t) = (if op = 1 then (-u.1, u.2.1, u.2.2) else if op = 2 then (if u.1 < 0 then 1 else u.1, u.2.1, u.2.2) else u) → ∃ h', f_M_turn_88 (iI op) (iI (b : Int)) g = some ((sp_ans (tn op t) b s).1, h') ∧ SR h' (sp_ans (tn op t) b s).2 ∧ hi h h' := by
      intro g u kg Mg hsu et
      unfold f_M_turn_88 f_M_turn_126
      rw [chk_t c5, chk_t c5, chk_t c5, chk_t c5, chk_t c5, chk_t c5]
      simp only [cl0, Mg.2.2.1]
      by_cases o1 : op = 1
      · rw [if_pos (by rw [o1]; rfl), iI_neg]
        rw [if_pos o1] at et
        refine fin _ (km_t kg (up3 g _ _ _ _ Mg).1) ?_
        rw [et]
        exact (up3 g _ _ _ _ Mg).2
      rw [if_neg (by rw [i1, iI_eq ⟨by omega, by omega⟩ ⟨by omega, by omega⟩]; exact o1)]
      rw [if_neg o1] at et
      by_cases o2 : op = 2
      · rw [if_pos (by rw [o2]; rfl)]
        rw [if_pos o2] at et
        by_cases n0 : u.1 < 0
        · rw [if_neg (by rw [i0, iI_le ⟨by omega, by omega⟩ ⟨by unfold isS at hsu; omega, by unfold isS at hsu; omega⟩]; omega)]
          rw [if_pos n0] at et
          refine fin _ (km_t kg (up3 g 1 _ _ _ Mg).1) ?_
          rw [et]
          exact (up3 g 1 _ _ _ Mg).2
        · rw [if_pos (by rw [i0, iI_le ⟨by omega, by omega⟩ ⟨by unfold isS at hsu; omega, by unfold isS at hsu; omega⟩]; omega)]
          rw [if_neg n0] at et
          refine fin _ (km_t kg (up3 g u.1 _ _ _ Mg).1) ?_
          rw [et]
          exact (up3 g _ _ _ _ Mg).2
      rw [if_neg (by rw [show (2 : Int32) = iI 2 from rfl, iI_eq ⟨by omega, by omega⟩ ⟨by omega, by omega⟩]; exact o2)]
      rw [if_neg o2] at et
      refine fin _ (km_t kg (up3 g u.1 _ _ _ Mg).1) ?_
      rw [et]
      exact (up3 g _ _ _ _ Mg).2
    by_cases o3 : op = 3
    · rw [if_pos (by rw [o3]; rfl), chk_t c5]
      obtain ⟨h3, e3, M3, k3⟩ := M_zero (h := h2) (z := 0) (by omega)
      rw [bd_t (show f_M_zero 0 h2 = _ from e3), chk_t c5]
      have c13 : inR 0 13000 := iI_inR (a := 0) (by omega) (by omega) (by omega)
      rw [chk_t c13, chk_t c13]
      simp only [cl0, M2.2.2.1]
      have tn3 : tn op t = (t.1, if t.1 = 0 then 0 else 1, 0) := by unfold tn; rw [if_neg (by omega), if_neg (by omega), if_pos o3]
      have g1 : ∀ v : Nat, v ≤ 1 → isM (up2 (up2 h3 53 0 (iI t.1)) 50 0 (iI (v : Int))) 0 t.1 v 0 := fun v hv => by
        have hm : mn v = 1 := by
          rcases Nat.lt_or_ge v 1 with y | y
          · rw [show v = 0 by omega]; rfl
          · rw [show v = 1 by omega]; rfl
        refine ⟨?_, ?_, ?_, by rw [hm]; omega, fun k hk => ?_⟩
        · rw [hm, up2_o _ _ _ _ (by omega), up2_o _ _ _ _ (by omega)]; exact M3.1
        · rw [up2_o _ _ _ _ (by omega), up2_o _ _ _ _ (by omega)]; exact M3.2.1
        · rw [up2_o _ _ _ _ (by omega), up2_s]
        · rw [hm] at hk ⊢
          rw [show 2600 * 0 + k = 0 by omega, up2_s]
          unfold dg
          rw [show 1 - 1 - k = 0 by omega, Nat.pow_zero, Nat.div_one, Nat.mod_eq_of_lt (by omega)]
      have kk : ∀ w : Int32, km h2 (up2 (up2 h3 53 0 (iI t.1)) 50 0 w) 0 := fun w => km_t k3 (km_t (km_53 _ _ _) (km_50 _ 0 0 _ (by omega)))
      by_cases s0 : t.1 = 0
      · rw [if_pos (by rw [s0]; rfl)]
        refine t88 _ (t.1, 0, 0) (kk _) (g1 0 (by omega)) hs ?_
        rw [tn3, if_pos s0, if_neg (by omega), if_neg (by omega)]
      · rw [if_neg (by rw [i0, iI_eq ⟨by unfold isS at hs; omega, by unfold isS at hs; omega⟩ ⟨by omega, by omega⟩]; exact s0)]
        refine t88 _ (t.1, 1, 0) (kk _) (g1 1 (by omega)) hs ?_
        rw [tn3, if_neg s0, if_neg (by omega), if_neg (by omega)]
    · rw [if_neg (by rw [show (3 : Int32) = iI 3 from rfl, iI_eq ⟨by omega, by omega⟩ ⟨by omega, by omega⟩]; exact o3)]
      refine t88 h2 t (km_r _ _) M2 hs ?_
      unfold tn
      rw [if_neg o3]
