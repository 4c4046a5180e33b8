/-! PURE 10: reading: the reference's reader -/
theorem skp_eq (bs : List Nat) : ∀ m k k' : Nat, k ≤ k' → k' ≤ k + m → (∀ j, k ≤ j → j < k' → bAt bs (j : Int) = 32) → (k' < k + m → bAt bs (k' : Int) ≠ 32) → skp bs m k = k' := by
  intro m
  induction m with
  | zero => intro k k' h1 h2 _ _; rw [skp]; omega
  | succ m ih =>
    intro k k' h1 h2 h3 h4
    rw [skp]
    by_cases q : k = k'
    · subst q
      rw [if_neg (h4 (by omega))]
    · rw [if_pos (h3 k (Nat.le_refl _) (by omega))]
      exact ih (k + 1) k' (by omega) (by omega) (fun j a b => h3 j (by omega) b) (fun a => h4 (by omega))
theorem skp_p (bs : List Nat) : ∀ m k, (∀ j, k ≤ j → j < skp bs m k → bAt bs (j : Int) = 32) ∧ (skp bs m k < k + m → bAt bs ((skp bs m k : Nat) : Int) ≠ 32) := by
  intro m
  induction m with
  | zero => intro k; exact ⟨fun j a b => by rw [skp] at b; omega, fun a => by rw [skp] at a; omega⟩
  | succ m ih =>
    intro k
    rw [skp]
    by_cases q : bAt bs (k : Int) = 32
    · rw [if_pos q]
      obtain ⟨i1, i2⟩ := ih (k + 1)
      refine ⟨fun j a b => ?_, fun a => i2 (by omega)⟩
      by_cases z : j = k
      · rw [z]; exact q
      · exact i1 j (by omega) b
    · rw [if_neg q]
      exact ⟨fun j a b => by omega, fun _ => q⟩
def trm (bs : List Nat) (k : Nat) : Nat → Nat
  | 0 => k
  | m + 1 => if bAt bs ((k + m : Nat) : Int) = 32 then trm bs k m else k + m + 1
theorem trm_p (bs : List Nat) (k : Nat) : ∀ m, k ≤ trm bs k m ∧ trm bs k m ≤ k + m ∧ (∀ j, trm bs k m ≤ j → j < k + m → bAt bs (j : Int) = 32) ∧ (k < trm bs k m → bAt bs ((trm bs k m - 1 : Nat) : Int) ≠ 32) := by
  intro m
  induction m with
  | zero => exact ⟨Nat.le_refl _, Nat.le_refl _, fun j a b => by rw [trm] at a; omega, fun a => by rw [trm] at a; omega⟩
  | succ m ih =>
    rw [trm]
    by_cases q : bAt bs ((k + m : Nat) : Int) = 32
    · rw [if_pos q]
      obtain ⟨i1, i2, i3, i4⟩ := ih
      refine ⟨i1, by omega, fun j a b => ?_, i4⟩
      by_cases z : j = k + m
      · rw [z]; exact q
      · exact i3 j a (by omega)
    · rw [if_neg q]
      exact ⟨by omega, by omega, fun j a b => by omega, fun _ => q⟩
theorem bAt_tk {bs : List Nat} {E k : Nat} (h : k < E) : bAt (bs.take E) (k : Int) = bAt bs (k : Int) := by
  unfold bAt
  rw [List.length_take, Int.toNat_natCast, gD_t h]
  by_cases q : k < bs.length
  · rw [if_pos (by omega), if_pos (by omega)]
  · rw [if_neg (by omega), if_neg (by omega)]
theorem rdE_len (bs : List Nat) : ∀ m k v, k ≤ bs.length → (rdE (fun k => bAt bs (k : Int)) m k v).1 ≤ bs.length := by
  intro m
  induction m with
  | zero => intro k v hk; exact hk
  | succ m ih =>
    intro k v hk
    rw [rdE]
    split
    · rename_i y
      refine ih _ _ ?_
      rcases Nat.lt_or_ge k bs.length with z | z
      · omega
      · rw [bAt_out z] at y; omega
    · exact hk
theorem rdX_len {bs : List Nat} {k c pl : Nat} {r : Nat × Nat × Int} (hk : k ≤ bs.length) (hr : rdX (fun k => bAt bs (k : Int)) k c pl = some r) : r.1 ≤ bs.length := by
  unfold rdX at hr
  by_cases q : bAt bs (k : Int) = 69 ∨ bAt bs (k : Int) = 101
  · simp only [if_pos q] at hr
    have hkl : k < bs.length := by
      rcases Nat.lt_or_ge k bs.length with z | z
      · exact z
      · rw [bAt_out z] at q; omega
    by_cases z : (rdE (fun k => bAt bs (k : Int)) 3 (if bAt bs ((k + 1 : Nat) : Int) = 43 ∨ bAt bs ((k + 1 : Nat) : Int) = 45 then k + 1 + 1 else k + 1) 0).1 = (if bAt bs ((k + 1 : Nat) : Int) = 43 ∨ bAt bs ((k + 1 : Nat) : Int) = 45 then k + 1 + 1 else k + 1)
    · rw [if_pos z] at hr; cases hr
    · rw [if_neg z] at hr
      have := (Option.some.inj hr).symm
      subst this
      refine rdE_len _ _ _ _ ?_
      by_cases y : bAt bs ((k + 1 : Nat) : Int) = 43 ∨ bAt bs ((k + 1 : Nat) : Int) = 45
      · rw [if_pos y]
        rcases Nat.lt_or_ge (k + 1) bs.length with z | z
        · omega
        · rw [bAt_out z] at y; omega
      · rw [if_neg y]; omega
  · simp only [if_neg q] at hr
    have := (Option.some.inj hr).symm
    subst this
    exact hk
/-- two texts that differ in blanks at the end alone -/
def tlB (b1 b2 : Nat → Int) (E : Nat) : Prop := (∀ k, k < E → b1 k = b2 k) ∧ ∀ k, E ≤ k → (b1 k = 32 ∨ b1 k = -1) ∧ b2 k = -1
theorem rdD_tl {b1 b2 : Nat → Int} {E L : Nat} (hEL : E ≤ L) (B : tlB b1 b2 E) : ∀ m k c n pl pt, k + m = E → rdD b1 (L - k) k c n pl pt = rdD b2 m k c n pl pt := by
  intro m
  induction m with
  | zero =>
    intro k c n pl pt hk
    rw [rdD]
    rcases Nat.lt_or_ge k L with z | z
    · obtain ⟨y, hy⟩ : ∃ y, L - k = y + 1 := ⟨L - k - 1, by omega⟩
      have := (B.2 k (by omega)).1
      rw [hy, rdD, if_neg (by omega), if_neg (by omega)]
    · rw [show L - k = 0 by omega, rdD]
  | succ m ih =>
    intro k c n pl pt hk
    obtain ⟨y, hy⟩ : ∃ y, L - k = y + 1 := ⟨L - k - 1, by omega⟩
    have e : y = L - (k + 1) := by omega
    rw [hy, rdD, rdD, B.1 k (by omega), e, ih (k + 1) _ _ _ _ (by omega), ih (k + 1) _ _ _ _ (by omega)]
theorem rdE_tl {b1 b2 : Nat → Int} {E : Nat} (B : tlB b1 b2 E) : ∀ m k v, rdE b1 m k v = rdE b2 m k v := by
  intro m
  induction m with
  | zero => intro k v; rfl
  | succ m ih =>
    intro k v
    rw [rdE, rdE]
    rcases Nat.lt_or_ge k E with z | z
    · rw [B.1 k z, ih]
    · have := B.2 k z
      rw [if_neg (by omega), if_neg (by omega)]
theorem rdX_tl {b1 b2 : Nat → Int} {E : Nat} (B : tlB b1 b2 E) (k c pl : Nat) : rdX b1 k c pl = rdX b2 k c pl := by
  unfold rdX
  have t : ∀ k (v : Int), v ≠ 32 → v ≠ -1 → ((b1 k = v) = (b2 k = v)) := fun k v h1 h2 => by
    rcases Nat.lt_or_ge k E with z | z
    · rw [B.1 k z]
    · have := B.2 k z
      exact propext ⟨fun q => by omega, fun q => by omega⟩
  simp only [rdE_tl B, t k 69 (by omega) (by omega), t k 101 (by omega) (by omega), t (k + 1) 43 (by omega) (by omega), t (k + 1) 45 (by omega) (by omega)]
theorem rdT_0 (b : Nat → Int) (k : Nat) : rdT b 0 k = none := by unfold rdT; rw [rdD]; rfl
theorem rdT_tl {b1 b2 : Nat → Int} {E L k : Nat} (hEL : E ≤ L) (hk : k ≤ E) (B : tlB b1 b2 E) : rdT b1 (L - k) k = rdT b2 (E - k) k := by
  unfold rdT
  rw [rdD_tl hEL B (E - k) k 0 0 0 0 (by omega), rdX_tl B]
def rdEnd (bs : List Nat) : Nat := trm bs (rdK bs) (bs.length - rdK bs)
def rdM2 (bs : List Nat) : Nat := if bAt (bs.take (rdEnd bs)) (rdK bs : Int) = 43 ∨ bAt (bs.take (rdEnd bs)) (rdK bs : Int) = 45 then skp (bs.take (rdEnd bs)) (rdEnd bs - (rdK bs + 1)) (rdK bs + 1) else rdK bs
def rdM (bs : List Nat) : Option (Int × Nat × Int) := match rdT (fun k => bAt (bs.take (rdEnd bs)) (k : Int)) (rdEnd bs - rdM2 bs) (rdM2 bs) with
  | none => none
  | some r => if r.1 = rdEnd bs then some (nrm (if bAt (bs.take (rdEnd bs)) (rdK bs : Int) = 45 then -1 else 1) r.2.1 r.2.2) else none
theorem rdK_le (bs : List Nat) : rdK bs ≤ bs.length := by have := skp_le bs bs.length 0; unfold rdK; omega
theorem rdEnd_le (bs : List Nat) : rdK bs ≤ rdEnd bs ∧ rdEnd bs ≤ bs.length := by
  have h := trm_p bs (rdK bs) (bs.length - rdK bs)
  have h2 := rdK_le bs
  unfold rdEnd
  omega
theorem rdM_eq (bs : List Nat) : rdM bs = rdN bs := by
  obtain ⟨p1, p2, p3, p4⟩ := trm_p bs (rdK bs) (bs.length - rdK bs)
  have hk0 := rdK_le bs
  obtain ⟨s1, s2⟩ := skp_p bs bs.length 0
  have hE : trm bs (rdK bs) (bs.length - rdK bs) = rdEnd bs := rfl
  rw [hE] at p1 p2 p3 p4
  have hEl : (bs.take (rdEnd bs)).length = rdEnd bs := by rw [List.length_take]; omega
  have B : tlB (fun k => bAt bs (k : Int)) (fun k => bAt (bs.take (rdEnd bs)) (k : Int)) (rdEnd bs) := by
    refine ⟨fun k hk => (bAt_tk hk).symm, fun k hk => ⟨?_, bAt_out (by omega)⟩⟩
    rcases Nat.lt_or_ge k bs.length with z | z
    · exact Or.inl (p3 k hk (by omega))
    · exact Or.inr (bAt_out z)
  unfold rdM rdN
  rcases Nat.lt_or_ge (rdK bs) bs.length with q | q
  · have hb : bAt bs (rdK bs : Int) ≠ 32 := s2 (by unfold rdK at q; omega)
    have hE2 : rdK bs < rdEnd bs := by
      rcases Nat.lt_or_ge (rdK bs) (rdEnd bs) with z | z
      · exact z
      · exact absurd (p3 (rdK bs) z (by omega)) hb
    have hb2 := p4 hE2
    have e0 : bAt (bs.take (rdEnd bs)) (rdK bs : Int) = bAt bs (rdK bs : Int) := bAt_tk hE2
    have fin : ∀ k, k ≤ rdEnd bs → rdK2 bs = k → rdM2 bs = k → (match rdT (fun k => bAt (bs.take (rdEnd bs)) (k : Int)) (rdEnd bs - rdM2 bs) (rdM2 bs) with
  | none => none
  | some r => if r.1 = rdEnd bs then some (nrm (if bAt (bs.take (rdEnd bs)) (rdK bs : Int) = 45 then -1 else 1) r.2.1 r.2.2) else none) = (match rdT (fun k => bAt bs (k : Int)) (bs.length - rdK2 bs) (rdK2 bs) with
  | none => none
  | some r => if skp bs (bs.length - r.1) r.1 = bs.length then some (nrm (if bAt bs (rdK bs : Int) = 45 then -1 else 1) r.2.1 r.2.2) else none) := by
      intro k hk e1 e2
      rw [e1, e2, rdT_tl (by omega) hk B, e0]
      cases hx : rdT (fun k => bAt (bs.take (rdEnd bs)) (k : Int)) (rdEnd bs - k) k with
      | none => rfl
      | some r =>
        have hr : r.1 ≤ rdEnd bs := by
          unfold rdT at hx
          split at hx
          · cases hx
          · have := rdD_k (fun k => bAt (bs.take (rdEnd bs)) (k : Int)) (rdEnd bs - k) k 0 0 0 0
            have := rdX_len (by rw [hEl]; omega) hx
            rw [hEl] at this
            exact this
        show (if r.1 = rdEnd bs then _ else none) = (if skp bs (bs.length - r.1) r.1 = bs.length then _ else none)
        by_cases z : r.1 = rdEnd bs
        · have hs : skp bs (bs.length - r.1) r.1 = bs.length := skp_eq bs (bs.length - r.1) r.1 bs.length (by omega) (by omega) (fun j a b => p3 j (by omega) (by omega)) (fun a => by omega)
          rw [if_pos z, if_pos hs]
        · have hs : ¬ skp bs (bs.length - r.1) r.1 = bs.length := fun y => by
            have := (skp_p bs (bs.length - r.1) r.1).1 (rdEnd bs - 1) (by omega) (by omega)
            exact hb2 this
          rw [if_neg z, if_neg hs]
    by_cases sg : bAt bs (rdK bs : Int) = 43 ∨ bAt bs (rdK bs : Int) = 45
    · have e1 : rdK1 bs = rdK bs + 1 := by unfold rdK1; rw [if_pos sg]
      have e2 : rdM2 bs = skp (bs.take (rdEnd bs)) (rdEnd bs - (rdK bs + 1)) (rdK bs + 1) := by unfold rdM2; rw [e0, if_pos sg]
      have e3 : rdK2 bs = skp bs (bs.length - (rdK bs + 1)) (rdK bs + 1) := by unfold rdK2; rw [e1]
      rcases Nat.lt_or_ge (rdK bs + 1) (rdEnd bs) with z | z
      · obtain ⟨u1, u2⟩ := skp_p bs (bs.length - (rdK bs + 1)) (rdK bs + 1)
        have ul := skp_le bs (bs.length - (rdK bs + 1)) (rdK bs + 1)
        rw [← e3] at u1 u2 ul
        have hlt : rdK2 bs < rdEnd bs := by
          rcases Nat.lt_or_ge (rdK2 bs) (rdEnd bs) with y | y
          · exact y
          · exact absurd (u1 (rdEnd bs - 1) (by omega) (by omega)) hb2
        refine fin (rdK2 bs) (by omega) rfl ?_
        rw [e2]
        exact skp_eq _ _ _ _ (by omega) (by omega) (fun j a b => by rw [bAt_tk (by omega)]; exact u1 j a b) (fun a => by rw [bAt_tk hlt]; exact u2 (by omega))
      · have e4 : rdM2 bs = rdEnd bs := by rw [e2, show rdEnd bs - (rdK bs + 1) = 0 by omega, skp]; omega
        have e5 : rdK2 bs = bs.length := by
          rw [e3]
          exact skp_eq _ _ _ _ (by omega) (by omega) (fun j a b => p3 j (by omega) (by omega)) (fun a => by omega)
        rw [e4, e5, Nat.sub_self, Nat.sub_self, rdT_0, rdT_0]
    · have e1 : rdK1 bs = rdK bs := by unfold rdK1; rw [if_neg sg]
      have e2 : rdM2 bs = rdK bs := by unfold rdM2; rw [e0, if_neg sg]
      refine fin (rdK bs) (by omega) ?_ e2
      unfold rdK2
      rw [e1]
      exact skp_eq _ _ _ _ (by omega) (by omega) (fun j a b => by omega) (fun _ => hb)
  · have hb : bAt bs (rdK bs : Int) = -1 := bAt_out q
    have e1 : rdK1 bs = rdK bs := by unfold rdK1; rw [if_neg (by omega)]
    have e0 : bAt (bs.take (rdEnd bs)) (rdK bs : Int) = -1 := bAt_out (by omega)
    have e2 : rdM2 bs = rdK bs := by unfold rdM2; rw [e0, if_neg (by omega)]
    have e3 : rdK2 bs = rdK bs := by unfold rdK2; rw [e1, show bs.length - rdK bs = 0 by omega, skp]
    rw [e2, e3, show rdEnd bs - rdK bs = 0 by omega, show bs.length - rdK bs = 0 by omega, rdT_0, rdT_0]
-- ===== the reference's reader =====
theorem ifq {p q : Prop} [Decidable p] [Decidable q] (h : p ↔ q) {α : Type} (a b : α) : (if p then a else b) = (if q then a else b) := by
  by_cases x : p
  · rw [if_pos x, if_pos (h.mp x)]
  · rw [if_neg x, if_neg (fun y => x (h.mpr y))]
theorem M_isDigit {b : Int} {h : Hp} (hb : bI b) : f_M_isDigit (iI b) h = some (iI (if isC b then 1 else 0), h) := by
  unfold f_M_isDigit
  simp (disch := omega) only [iI_lit, iI_lt]
  by_cases q : b < 48
  · rw [if_pos (by omega), if_neg (by omega)]; rfl
  · rw [if_neg (by omega)]
    by_cases q2 : 57 < b
    · rw [if_pos (by omega), if_neg (by omega)]; rfl
    · rw [if_neg (by omega), if_pos (by omega)]; rfl
/-- the first E bytes of register r -/
def isE (h : Hp) (r : Nat) (bs : List Nat) : Prop := bs.length ≤ 200 ∧ (∀ k, k < bs.length → bs.getD k 0 < 256) ∧ ∀ k, k < bs.length → h 48 (200 * r + k) = iI (bAt bs (k : Int))
theorem isE_of {h : Hp} {r : Nat} {bs : List Nat} (H : isR h r bs) (hb : okB bs 200) : isE h r bs := ⟨hb.1, hb.2, fun k hk => by rw [H.2 k hk, bAt_in hk]⟩
theorem isE_tk {h : Hp} {r E : Nat} {bs : List Nat} (H : isE h r bs) : isE h r (bs.take E) := by
  obtain ⟨h1, h2, h3⟩ := H
  refine ⟨by rw [List.length_take]; omega, fun k hk => ?_, fun k hk => ?_⟩
  · rw [List.length_take] at hk
    rw [gD_t (by omega)]
    exact h2 k (by omega)
  · rw [List.length_take] at hk
    rw [bAt_tk (by omega)]
    exact h3 k (by omega)
theorem inB {r k : Nat} (hr : r < 10) (hk : k < 200) : inR (iI ((200 * r + k : Nat) : Int)) 2000 := iI_inR (by omega) (by omega) (by omega)
theorem clB {r k : Nat} (hr : r < 10) (hk : k < 2000) : (iI ((200 * r + k : Nat) : Int)).toNatClampNeg = 200 * r + k := clN (by omega)
theorem leN {a b : Nat} (ha : a < 1000000000) (hb : b < 1000000000) (h : a ≤ b) : iI (a : Int) ≤ iI (b : Int) := (iI_le ⟨by omega, by omega⟩ ⟨by omega, by omega⟩).mpr (by omega)
theorem nleN {a b : Nat} (ha : a < 1000000000) (hb : b < 1000000000) (h : b < a) : ¬ iI (a : Int) ≤ iI (b : Int) := fun q => by have := (iI_le (a := (a : Int)) (b := (b : Int)) ⟨by omega, by omega⟩ ⟨by omega, by omega⟩).mp q; omega
theorem eqL {a : Int} (n : Nat) (ha : -1 ≤ a ∧ a ≤ 255) (hn : n < 1000) : (iI a = (OfNat.ofNat n : Int32)) = (a = n) := by rw [iI_lit, propext (iI_eq ⟨by omega, by omega⟩ ⟨by omega, by omega⟩)]
theorem M_r16 {r z : Nat} {bs : List Nat} {h : Hp} (hr : r < 10) (H : isE h r bs) : ∀ (m k n : Nat), k + m = bs.length → m < n → f_M_read_16 n (iI (z : Int)) (iI ((200 * r + k : Nat) : Int)) (iI ((200 * r + bs.length : Nat) : Int)) h = f_M_read_39 fuel (iI (z : Int)) (iI ((200 * r + skp bs m k : Nat) : Int)) (iI ((200 * r + bs.length : Nat) : Int)) h := by
  have hl := H.1
  intro m
  induction m with
  | zero =>
    intro k n hk hn
    obtain ⟨n, rfl⟩ : ∃ q, n = q + 1 := ⟨n - 1, by omega⟩
    rw [f_M_read_16, if_pos (leN (by omega) (by omega) (by omega)), skp]
  | succ m ih =>
    intro k n hk hn
    obtain ⟨n, rfl⟩ : ∃ q, n = q + 1 := ⟨n - 1, by omega⟩
    have hrg := bAt_rg H.2.1 (k : Int)
    rw [f_M_read_16, if_neg (nleN (by omega) (by omega) (by omega)), chk_t (inB hr (by omega)), skp]
    simp only [clB hr (show k < 2000 by omega), H.2.2 k (by omega)]
    by_cases q : bAt bs (k : Int) = 32
    · rw [if_pos (by rw [q]; rfl), if_pos q, scN]
      exact ih (k + 1) n (by omega) (by omega)
    · rw [if_neg (by rw [show (32 : Int32) = iI 32 from rfl, iI_eq ⟨by omega, by omega⟩ ⟨by omega, by omega⟩]; exact q), if_neg q]
theorem M_r39 {r z k : Nat} {bs : List Nat} {h : Hp} (hr : r < 10) (H : isE h r bs) : ∀ (m n : Nat), k + m ≤ bs.length → m < n → f_M_read_39 n (iI (z : Int)) (iI ((200 * r + k : Nat) : Int)) (iI ((200 * r + (k + m) : Nat) : Int)) h = f_M_read_65 (iI (z : Int)) (iI ((200 * r + k : Nat) : Int)) (iI ((200 * r + trm bs k m : Nat) : Int)) h := by
  have hl := H.1
  intro m
  induction m with
  | zero =>
    intro n hk hn
    obtain ⟨n, rfl⟩ : ∃ q, n = q + 1 := ⟨n - 1, by omega⟩
    rw [f_M_read_39, if_pos (leN (by omega) (by omega) (by omega)), trm]
    rfl
  | succ m ih =>
    intro n hk hn
    obtain ⟨n, rfl⟩ : ∃ q, n = q + 1 := ⟨n - 1, by omega⟩
    have hrg := bAt_rg H.2.1 ((k + m : Nat) : Int)
    have em : iI ((200 * r + (k + (m + 1)) : Nat) : Int) - 1 = iI ((200 * r + (k + m) : Nat) : Int) := by rw [i1, iI_sub]; congr 1; omega
    have em2 : iI ((200 * r + (k + (m + 1)) : Nat) : Int) + (-1) = iI ((200 * r + (k + m) : Nat) : Int) := by rw [im1, iI_add]; congr 1; omega
    rw [f_M_read_39, if_neg (nleN (by omega) (by omega) (by omega)), em, chk_t (inB hr (by omega)), trm, em2]
    simp only [clB hr (show k + m < 2000 by omega), H.2.2 (k + m) (by omega)]
    by_cases q : bAt bs ((k + m : Nat) : Int) = 32
    · rw [if_pos (by rw [q]; rfl), if_pos q]
      exact ih n (by omega) (by omega)
    · rw [if_neg (by rw [show (32 : Int32) = iI 32 from rfl, iI_eq ⟨by omega, by omega⟩ ⟨by omega, by omega⟩]; exact q), if_neg q]
      rfl
theorem M_r120 {r z : Nat} {bs : List Nat} {h : Hp} {mi : Int32} (hr : r < 10) (H : isE h r bs) : ∀ (m k n : Nat), k + m = bs.length → m < n → f_M_read_120 n (iI (z : Int)) (iI ((200 * r + k : Nat) : Int)) (iI ((200 * r + bs.length : Nat) : Int)) mi h = f_M_read_152 fuel (iI (z : Int)) (iI ((200 * r + skp bs m k : Nat) : Int)) (iI ((200 * r + bs.length : Nat) : Int)) mi 0 0 0 h := by
  have hl := H.1
  intro m
  induction m with
  | zero =>
    intro k n hk hn
    obtain ⟨n, rfl⟩ : ∃ q, n = q + 1 := ⟨n - 1, by omega⟩
    rw [f_M_read_120, if_pos (leN (by omega) (by omega) (by omega)), skp]
  | succ m ih =>
    intro k n hk hn
    obtain ⟨n, rfl⟩ : ∃ q, n = q + 1 := ⟨n - 1, by omega⟩
    have hrg := bAt_rg H.2.1 (k : Int)
    rw [f_M_read_120, if_neg (nleN (by omega) (by omega) (by omega)), chk_t (inB hr (by omega)), skp]
    simp only [clB hr (show k < 2000 by omega), H.2.2 k (by omega)]
    by_cases q : bAt bs (k : Int) = 32
    · rw [if_pos (by rw [q]; rfl), if_pos q, scN]
      exact ih (k + 1) n (by omega) (by omega)
    · rw [if_neg (by rw [show (32 : Int32) = iI 32 from rfl, iI_eq ⟨by omega, by omega⟩ ⟨by omega, by omega⟩]; exact q), if_neg q]
/-- n digits that stand in the row, and the number that they make -/
def isF (h : Hp) (z n c : Nat) : Prop := ∃ f : Nat → Nat, (∀ k, k < n → f k < 10) ∧ (∀ k, k < n → h 50 (2600 * z + k) = iI (f k : Int)) ∧ dv f n = c
theorem isE_km {h h' : Hp} {r z : Nat} {bs : List Nat} (H : isE h r bs) (k : km h h' z) : isE h' r bs := ⟨H.1, H.2.1, fun q hq => by rw [k.1 48 (by omega) (by omega) (by omega) (by omega)]; exact H.2.2 q hq⟩
theorem M_r152 {r z : Nat} {bs : List Nat} {mi : Int32} (hr : r < 10) (hz : z < 5) : ∀ (m k n : Nat) (h : Hp) (c nn pl pt : Nat), isE h r bs → k + m = bs.length → m < n → isF h z nn c → nn ≤ k → pt ≤ 1 → ∃ h', f_M_read_152 n (iI (z : Int)) (iI ((200 * r + k : Nat) : Int)) (iI ((200 * r + bs.length : Nat) : Int)) mi (iI (nn : Int)) (iI (pl : Int)) (iI (pt : Int)) h = f_M_read_249 (iI (z : Int)) (iI ((200 * r + (rdD (fun k => bAt bs (k : Int)) m k c nn pl pt).1 : Nat) : Int)) (iI ((200 * r + bs.length : Nat) : Int)) mi (iI ((rdD (fun k => bAt bs (k : Int)) m k c nn pl pt).2.2.1 : Int)) (iI ((rdD (fun k => bAt bs (k : Int)) m k c nn pl pt).2.2.2 : Int)) h' ∧ isF h' z (rdD (fun k => bAt bs (k : Int)) m k c nn pl pt).2.2.1 (rdD (fun k => bAt bs (k : Int)) m k c nn pl pt).2.1 ∧ (rdD (fun k => bAt bs (k : Int)) m k c nn pl pt).2.2.1 ≤ 200 ∧ km h h' z := by
  intro m
  induction m with
  | zero =>
    intro k n h c nn pl pt H hk hn F hnn hpt
    have hl := H.1
    obtain ⟨n, rfl⟩ : ∃ q, n = q + 1 := ⟨n - 1, by omega⟩
    rw [f_M_read_152, if_pos (leN (by omega) (by omega) (by omega)), rdD]
    exact ⟨h, rfl, F, by show nn ≤ 200; omega, km_r _ _⟩
  | succ m ih =>
    intro k n h c nn pl pt H hk hn F hnn hpt
    have hl := H.1
    obtain ⟨n, rfl⟩ : ∃ q, n = q + 1 := ⟨n - 1, by omega⟩
    have hrg := bAt_rg H.2.1 (k : Int)
    have hb := H.2.2 k (by omega)
    have hcl := clB hr (show k < 2000 by omega)
    rw [f_M_read_152, if_neg (nleN (by omega) (by omega) (by omega)), chk_t (inB hr (by omega)), rdD]
    simp only [hcl, hb]
    rw [bd_t (M_isDigit ⟨by omega, by omega⟩)]
    by_cases q : isC (bAt bs (k : Int))
    · rw [if_pos q, if_neg (by decide), if_pos q]
      unfold f_M_read_186
      rw [chk_t (inB hr (by omega))]
      simp only [hcl, hb]
      rw [if_neg (by rw [show (46 : Int32) = iI 46 from rfl, iI_eq ⟨by omega, by omega⟩ ⟨by omega, by omega⟩]; omega), chk_t (inB hr (by omega)), ixN, chk_t (ixR hz (by omega)), clN (by omega), scN, scN]
      have ed : iI (bAt bs (k : Int)) - 48 = iI (((bAt bs (k : Int) - 48).toNat : Nat) : Int) := by rw [show (48 : Int32) = iI 48 from rfl, iI_sub]; congr 1; omega
      obtain ⟨f, f1, f2, f3⟩ := F
      have F1 : isF (up2 h 50 (2600 * z + nn) (iI (((bAt bs (k : Int) - 48).toNat : Nat) : Int))) z (nn + 1) (10 * c + (bAt bs (k : Int) - 48).toNat) := by
        refine ⟨fun j => if j = nn then (bAt bs (k : Int) - 48).toNat else f j, fun j hj => ?_, fun j hj => ?_, ?_⟩
        · show (if j = nn then _ else f j) < 10
          split
          · omega
          · exact f1 j (by omega)
        · by_cases y : j = nn
          · rw [y, up2_s]
            show _ = iI (((if nn = nn then _ else f nn : Nat)) : Int)
            rw [if_pos rfl]
          · rw [up2_k _ _ _ (by omega), f2 j (by omega)]
            show _ = iI (((if j = nn then _ else f j : Nat)) : Int)
            rw [if_neg y]
        · rw [dv_s]
          show _ + (if nn = nn then _ else f nn) = _
          rw [if_pos rfl, dv_congr (d' := f) (fun j hj => by show (if j = nn then _ else f j) = _; rw [if_neg (by omega)]), f3, Nat.mul_comm]
      rw [ed]
      have k1 := km_50 h z nn (iI (((bAt bs (k : Int) - 48).toNat : Nat) : Int)) (by omega)
      obtain ⟨h', e', a', b', c'⟩ := ih (k + 1) n _ (10 * c + (bAt bs (k : Int) - 48).toNat) (nn + 1) (pl + pt) pt (isE_km H k1) (by omega) (by omega) F1 (by omega) hpt
      refine ⟨h', ?_, a', b', km_t k1 c'⟩
      rw [← e']
      have ep : iI (pl : Int) + iI (pt : Int) = iI ((pl + pt : Nat) : Int) := by rw [iI_add]; rfl
      rw [← ep]
      rcases Nat.lt_or_ge pt 1 with p | p
      · have : pt = 0 := by omega
        subst this
        rw [if_pos (by rfl)]
        rfl
      · have : pt = 1 := by omega
        subst this
        rw [if_neg (by decide)]
        rfl
    · rw [if_neg q, if_pos (by rfl), if_neg q, chk_t (inB hr (by omega))]
      simp only [hcl, hb]
      by_cases q2 : bAt bs (k : Int) = 46
      · rw [if_pos (by rw [q2]; rfl)]
        by_cases q3 : pt = 0
        · rw [if_pos (by rw [q3]; rfl), if_pos (show bAt bs (k : Int) = 46 ∧ pt = 0 from ⟨q2, q3⟩)]
          unfold f_M_read_186
          rw [chk_t (inB hr (by omega))]
          simp only [hcl, hb]
          rw [if_pos (by rw [q2]; rfl), scN]
          exact ih (k + 1) n h c nn pl 1 H (by omega) (by omega) F (by omega) (by omega)
        · rw [if_neg (by rw [i0, iI_eq ⟨by omega, by omega⟩ ⟨by omega, by omega⟩]; omega), if_neg (show ¬ (bAt bs (k : Int) = 46 ∧ pt = 0) from fun y => q3 y.2)]
          exact ⟨h, rfl, F, by show nn ≤ 200; omega, km_r _ _⟩
      · rw [if_neg (by rw [show (46 : Int32) = iI 46 from rfl, iI_eq ⟨by omega, by omega⟩ ⟨by omega, by omega⟩]; exact q2), if_neg (show ¬ (bAt bs (k : Int) = 46 ∧ pt = 0) from fun y => q2 y.1)]
        exact ⟨h, rfl, F, by show nn ≤ 200; omega, km_r _ _⟩
theorem M_r440 {z nn c a b : Nat} {h : Hp} {s ee pl : Int} (hz : z < 5) (hn : 0 < nn) (hn2 : nn ≤ 200) (ha : a < 1000000) (hb : b < 1000000) (F : isF h z nn c) : ∃ h', f_M_read_440 (iI (z : Int)) (iI (a : Int)) (iI (b : Int)) (iI (nn : Int)) (iI pl) (iI ee) (iI (z : Int)) (iI s) h = some (iI (if a = b then 1 else 0), h') ∧ isM h' z (nrm s c (ee - pl)).1 (nrm s c (ee - pl)).2.1 (nrm s c (ee - pl)).2.2 ∧ km h h' z := by
  obtain ⟨f, f1, f2, f3⟩ := F
  unfold f_M_read_440
  rw [chk_t (inz hz), chk_t (inz hz), chk_t (inz hz), clz hz, iI_sub]
  have k1 : km h (up2 (up2 (up2 h 53 z (iI s)) 51 z (iI (nn : Int))) 52 z (iI (ee - pl))) z := km_t (km_t (km_53 _ _ _) (km_51 _ _ _)) (km_52 _ _ _)
  obtain ⟨h', e', M', K'⟩ := M_settle (h := up2 (up2 (up2 h 53 z (iI s)) 51 z (iI (nn : Int))) 52 z (iI (ee - pl))) (f := f) (s := s) (e := ee - pl) hz hn ⟨by rw [up2_o _ _ _ _ (by omega), up2_s], by omega, f1, fun k hk => by rw [up2_o _ _ _ _ (by omega), up2_o _ _ _ _ (by omega), up2_o _ _ _ _ (by omega)]; exact f2 k hk⟩ (up2_s _ _ _ _) (by rw [up2_o _ _ _ _ (by omega), up2_o _ _ _ _ (by omega), up2_s])
  rw [bd_t e']
  have M2 : isM h' z (nrm s c (ee - pl)).1 (nrm s c (ee - pl)).2.1 (nrm s c (ee - pl)).2.2 := by
    rw [f3] at M'
    unfold nrm
    by_cases c0 : c = 0
    · rw [if_pos c0, if_pos c0] at M'
      rw [if_pos c0]
      rw [c0] at M'
      exact M'
    · rw [if_neg c0, if_neg c0] at M'
      rw [if_neg c0]
      exact M'
  by_cases q : a = b
  · rw [if_pos (by rw [q]), if_pos q]
    exact ⟨h', rfl, M2, km_t k1 K'⟩
  · rw [if_neg (by rw [iI_eq ⟨by omega, by omega⟩ ⟨by omega, by omega⟩]; omega), if_neg q]
    exact ⟨h', rfl, M2, km_t k1 K'⟩
theorem M_r353 {r z k0 : Nat} {bs : List Nat} {h : Hp} {mi dn v6 v7 : Int32} (hr : r < 10) (H : isE h r bs) : ∀ (m k n v : Nat), k = k0 + (3 - m) → m ≤ 3 → k ≤ bs.length → m < n → f_M_read_353 n (iI (z : Int)) (iI ((200 * r + k : Nat) : Int)) (iI ((200 * r + bs.length : Nat) : Int)) mi v6 v7 (iI (v : Int)) dn (iI ((200 * r + k0 : Nat) : Int)) h = f_M_read_402 (iI (z : Int)) (iI ((200 * r + (rdE (fun k => bAt bs (k : Int)) m k v).1 : Nat) : Int)) (iI ((200 * r + bs.length : Nat) : Int)) mi v6 v7 (iI ((rdE (fun k => bAt bs (k : Int)) m k v).2 : Int)) dn (iI ((200 * r + k0 : Nat) : Int)) h := by
  have hl := H.1
  intro m
  induction m with
  | zero =>
    intro k n v hk hm hkl hn
    obtain ⟨n, rfl⟩ : ∃ q, n = q + 1 := ⟨n - 1, by omega⟩
    rw [f_M_read_353, rdE]
    rcases Nat.lt_or_ge k bs.length with q | q
    · have hrg := bAt_rg H.2.1 (k : Int)
      rw [if_neg (nleN (by omega) (by omega) (by omega)), chk_t (inB hr (by omega))]
      simp only [clB hr (show k < 2000 by omega), H.2.2 k q]
      rw [bd_t (M_isDigit ⟨by omega, by omega⟩)]
      have e3 : (3 : Int32) ≤ iI ((200 * r + k : Nat) : Int) - iI ((200 * r + k0 : Nat) : Int) := by
        rw [iI_sub, show (3 : Int32) = iI 3 from rfl, iI_le ⟨by omega, by omega⟩ ⟨by omega, by omega⟩]; omega
      rw [if_pos e3]
      split <;> rfl
    · rw [if_pos (leN (by omega) (by omega) (by omega))]
  | succ m ih =>
    intro k n v hk hm hkl hn
    obtain ⟨n, rfl⟩ : ∃ q, n = q + 1 := ⟨n - 1, by omega⟩
    rw [f_M_read_353, rdE]
    rcases Nat.lt_or_ge k bs.length with q | q
    · have hrg := bAt_rg H.2.1 (k : Int)
      rw [if_neg (nleN (by omega) (by omega) (by omega)), chk_t (inB hr (by omega))]
      simp only [clB hr (show k < 2000 by omega), H.2.2 k q]
      rw [bd_t (M_isDigit ⟨by omega, by omega⟩)]
      by_cases d : isC (bAt bs (k : Int))
      · have e3 : ¬ (3 : Int32) ≤ iI ((200 * r + k : Nat) : Int) - iI ((200 * r + k0 : Nat) : Int) := by
          rw [iI_sub, show (3 : Int32) = iI 3 from rfl, iI_le ⟨by omega, by omega⟩ ⟨by omega, by omega⟩]; omega
        rw [if_pos d, if_neg (by decide), if_neg e3, if_pos d, chk_t (inB hr (by omega)), H.2.2 k q, scN]
        have ed : 10 * iI (v : Int) + iI (bAt bs (k : Int)) - 48 = iI ((10 * v + (bAt bs (k : Int) - 48).toNat : Nat) : Int) := by rw [show (48 : Int32) = iI 48 from rfl, show (10 : Int32) = iI 10 from rfl, iI_mul, iI_add, iI_sub]; congr 1; omega
        rw [ed]
        exact ih (k + 1) n _ (by omega) (by omega) (by omega) (by omega)
      · rw [if_neg d, if_pos (by rfl), if_neg d]
    · have := bAt_out q
      rw [if_pos (leN (by omega) (by omega) (by omega)), if_neg (by omega)]
theorem M_r249 {r z nn c pl k : Nat} {bs : List Nat} {h : Hp} {mi : Nat} (hr : r < 10) (hz : z < 5) (hmi : mi ≤ 1) (H : isE h r bs) (hk : k ≤ bs.length) (hn2 : nn ≤ 200) (F : isF h z nn c) : ∃ h', f_M_read_249 (iI (z : Int)) (iI ((200 * r + k : Nat) : Int)) (iI ((200 * r + bs.length : Nat) : Int)) (iI (mi : Int)) (iI (nn : Int)) (iI (pl : Int)) h = some (iI (if nn = 0 then 0 else match rdX (fun k => bAt bs (k : Int)) k c pl with | none => 0 | some t => if t.1 = bs.length then 1 else 0), h') ∧ km h h' z ∧ ∀ t, nn ≠ 0 → rdX (fun k => bAt bs (k : Int)) k c pl = some t → isM h' z (nrm (if mi = 0 then 1 else -1) t.2.1 t.2.2).1 (nrm (if mi = 0 then 1 else -1) t.2.1 t.2.2).2.1 (nrm (if mi = 0 then 1 else -1) t.2.1 t.2.2).2.2 := by
  have hl := H.1
  unfold f_M_read_249
  by_cases n0 : nn = 0
  · rw [if_pos (by rw [n0]; rfl), if_pos n0]
    exact ⟨h, rfl, km_r _ _, fun t a => absurd n0 a⟩
  · rw [if_neg (by rw [i0, iI_eq ⟨by omega, by omega⟩ ⟨by omega, by omega⟩]; omega), if_neg n0]
    have sg : ∀ (a : Nat) (ee : Int), a < 1000000 → ∃ h', (if iI (mi : Int) = 0 then f_M_read_440 (iI (z : Int)) (iI (a : Int)) (iI ((200 * r + bs.length : Nat) : Int)) (iI (nn : Int)) (iI (pl : Int)) (iI ee) (iI (z : Int)) 1 h else f_M_read_440 (iI (z : Int)) (iI (a : Int)) (iI ((200 * r + bs.length : Nat) : Int)) (iI (nn : Int)) (iI (pl : Int)) (iI ee) (iI (z : Int)) (-1) h) = some (iI (if a = 200 * r + bs.length then 1 else 0), h') ∧ isM h' z (nrm (if mi = 0 then 1 else -1) c (ee - pl)).1 (nrm (if mi = 0 then 1 else -1) c (ee - pl)).2.1 (nrm (if mi = 0 then 1 else -1) c (ee - pl)).2.2 ∧ km h h' z := by
      intro a ee ha
      by_cases m0 : mi = 0
      · rw [if_pos (by rw [m0]; rfl), if_pos m0, i1]
        exact M_r440 hz (by omega) hn2 ha (by omega) F
      · rw [if_neg (by rw [i0, iI_eq ⟨by omega, by omega⟩ ⟨by omega, by omega⟩]; omega), if_neg m0, im1]
        exact M_r440 hz (by omega) hn2 ha (by omega) F
    have plain : ¬ (bAt bs (k : Int) = 69 ∨ bAt bs (k : Int) = 101) → ∃ h', (if iI (mi : Int) = 0 then f_M_read_440 (iI (z : Int)) (iI ((200 * r + k : Nat) : Int)) (iI ((200 * r + bs.length : Nat) : Int)) (iI (nn : Int)) (iI (pl : Int)) 0 (iI (z : Int)) 1 h else f_M_read_440 (iI (z : Int)) (iI ((200 * r + k : Nat) : Int)) (iI ((200 * r + bs.length : Nat) : Int)) (iI (nn : Int)) (iI (pl : Int)) 0 (iI (z : Int)) (-1) h) = some (iI (match rdX (fun k => bAt bs (k : Int)) k c pl with | none => 0 | some t => if t.1 = bs.length then 1 else 0), h') ∧ km h h' z ∧ ∀ t, nn ≠ 0 → rdX (fun k => bAt bs (k : Int)) k c pl = some t → isM h' z (nrm (if mi = 0 then 1 else -1) t.2.1 t.2.2).1 (nrm (if mi = 0 then 1 else -1) t.2.1 t.2.2).2.1 (nrm (if mi = 0 then 1 else -1) t.2.1 t.2.2).2.2 := by
      intro nb
      obtain ⟨h', e', M', K'⟩ := sg (200 * r + k) 0 (by omega)
      rw [rdX_n _ _ _ _ nb]
      refine ⟨h', e'.trans ?_, K', fun t _ ht => ?_⟩
      · show _ = some (iI (if k = bs.length then 1 else 0), h')
        congr 3
        exact ifq (by omega) _ _
      · have ht := (Option.some.inj ht).symm
        subst ht
        rw [Int.zero_sub] at M'
        exact M'
    rcases Nat.lt_or_ge k bs.length with q | q
    · have hrg := bAt_rg H.2.1 (k : Int)
      have hb := H.2.2 k q
      have hcl := clB hr (show k < 2000 by omega)
      rw [if_neg (nleN (by omega) (by omega) (by omega)), chk_t (inB hr (by omega)), chk_t (inB hr (by omega))]
      simp only [hcl, hb]
      by_cases nb : bAt bs (k : Int) = 69 ∨ bAt bs (k : Int) = 101
      · have e287 : ∀ x : Option (Int32 × Hp), (if iI (bAt bs (k : Int)) = 69 then f_M_read_287 (iI (z : Int)) (iI ((200 * r + k : Nat) : Int)) (iI ((200 * r + bs.length : Nat) : Int)) (iI (mi : Int)) (iI (nn : Int)) (iI (pl : Int)) 0 h else if iI (bAt bs (k : Int)) = 101 then f_M_read_287 (iI (z : Int)) (iI ((200 * r + k : Nat) : Int)) (iI ((200 * r + bs.length : Nat) : Int)) (iI (mi : Int)) (iI (nn : Int)) (iI (pl : Int)) 0 h else x) = f_M_read_287 (iI (z : Int)) (iI ((200 * r + k : Nat) : Int)) (iI ((200 * r + bs.length : Nat) : Int)) (iI (mi : Int)) (iI (nn : Int)) (iI (pl : Int)) 0 h := fun x => by
          rcases nb with y | y
          · rw [if_pos (by rw [y]; rfl)]
          · rw [if_neg (by rw [y]; decide), if_pos (by rw [y]; rfl)]
        rw [e287]
        unfold f_M_read_287
        rw [scN]
        have hrg1 := bAt_rg H.2.1 ((k + 1 : Nat) : Int)
        have ea : 200 * r + k + 1 = 200 * r + (k + 1) := by omega
        rw [ea]
        have fin : ∀ k2 : Nat, k2 ≤ bs.length → k2 = (if bAt bs ((k + 1 : Nat) : Int) = 43 ∨ bAt bs ((k + 1 : Nat) : Int) = 45 then k + 1 + 1 else k + 1) → ∀ dn : Nat, dn ≤ 1 → (dn = 1 ↔ bAt bs ((k + 1 : Nat) : Int) = 45) → ∃ h', f_M_read_353 fuel (iI (z : Int)) (iI ((200 * r + k2 : Nat) : Int)) (iI ((200 * r + bs.length : Nat) : Int)) (iI (mi : Int)) (iI (nn : Int)) (iI (pl : Int)) 0 (iI (dn : Int)) (iI ((200 * r + k2 : Nat) : Int)) h = some (iI (match rdX (fun k => bAt bs (k : Int)) k c pl with | none => 0 | some t => if t.1 = bs.length then 1 else 0), h') ∧ km h h' z ∧ ∀ t, nn ≠ 0 → rdX (fun k => bAt bs (k : Int)) k c pl = some t → isM h' z (nrm (if mi = 0 then 1 else -1) t.2.1 t.2.2).1 (nrm (if mi = 0 then 1 else -1) t.2.1 t.2.2).2.1 (nrm (if mi = 0 then 1 else -1) t.2.1 t.2.2).2.2 := by
          intro k2 hk2 e2 dn hdn hd
          have L := M_r353 (z := z) (k0 := k2) (mi := iI (mi : Int)) (dn := iI (dn : Int)) (v6 := iI (nn : Int)) (v7 := iI (pl : Int)) hr H 3 k2 fuel 0 (by omega) (by omega) hk2 (by unfold fuel; omega)
          have hkk := rdE_k (fun k => bAt bs (k : Int)) 3 k2 0
          have hkl := rdE_len bs 3 k2 0 hk2
          unfold rdX
          simp only [if_pos nb]
          rw [← e2]
          have L2 := L
          rw [show iI ((0 : Nat) : Int) = (0 : Int32) from rfl] at L2
          rw [L2]
          unfold f_M_read_402
          by_cases y : (rdE (fun k => bAt bs (k : Int)) 3 k2 0).1 = k2
          · rw [if_pos (by rw [y]), if_pos y]
            exact ⟨h, rfl, km_r _ _, fun t _ ht => by cases ht⟩
          · rw [if_neg (by rw [iI_eq ⟨by omega, by omega⟩ ⟨by omega, by omega⟩]; omega), if_neg y]
            unfold f_M_read_423
            have both : ∀ ee : Int, ee = (if bAt bs ((k + 1 : Nat) : Int) = 45 then -((rdE (fun k => bAt bs (k : Int)) 3 k2 0).2 : Int) else ((rdE (fun k => bAt bs (k : Int)) 3 k2 0).2 : Int)) → ∃ h', (if iI (mi : Int) = 0 then f_M_read_440 (iI (z : Int)) (iI ((200 * r + (rdE (fun k => bAt bs (k : Int)) 3 k2 0).1 : Nat) : Int)) (iI ((200 * r + bs.length : Nat) : Int)) (iI (nn : Int)) (iI (pl : Int)) (iI ee) (iI (z : Int)) 1 h else f_M_read_440 (iI (z : Int)) (iI ((200 * r + (rdE (fun k => bAt bs (k : Int)) 3 k2 0).1 : Nat) : Int)) (iI ((200 * r + bs.length : Nat) : Int)) (iI (nn : Int)) (iI (pl : Int)) (iI ee) (iI (z : Int)) (-1) h) = some (iI (if (rdE (fun k => bAt bs (k : Int)) 3 k2 0).1 = bs.length then 1 else 0), h') ∧ km h h' z ∧ ∀ t : Nat × Nat × Int, nn ≠ 0 → some ((rdE (fun k => bAt bs (k : Int)) 3 k2 0).1, c, (if bAt bs ((k + 1 : Nat) : Int) = 45 then -((rdE (fun k => bAt bs (k : Int)) 3 k2 0).2 : Int) else ((rdE (fun k => bAt bs (k : Int)) 3 k2 0).2 : Int)) - (pl : Int)) = some t → isM h' z (nrm (if mi = 0 then 1 else -1) t.2.1 t.2.2).1 (nrm (if mi = 0 then 1 else -1) t.2.1 t.2.2).2.1 (nrm (if mi = 0 then 1 else -1) t.2.1 t.2.2).2.2 := by
              intro ee hee
              obtain ⟨h', e', M', K'⟩ := sg (200 * r + (rdE (fun k => bAt bs (k : Int)) 3 k2 0).1) ee (by omega)
              refine ⟨h', e'.trans ?_, K', fun t _ ht => ?_⟩
              · congr 3
                exact ifq (by omega) _ _
              · have ht := (Option.some.inj ht).symm
                subst ht
                rw [← hee]
                exact M'
            by_cases d0 : dn = 0
            · rw [if_pos (by rw [d0]; rfl)]
              exact both _ (by rw [if_neg (by omega)])
            · rw [if_neg (by rw [i0, iI_eq ⟨by omega, by omega⟩ ⟨by omega, by omega⟩]; omega), iI_neg]
              exact both _ (by rw [if_pos (by omega)])
        have all : ∀ dn : Nat, dn ≤ 1 → (dn = 1 ↔ bAt bs ((k + 1 : Nat) : Int) = 45) → ∃ h', f_M_read_312 (iI (z : Int)) (iI ((200 * r + (k + 1) : Nat) : Int)) (iI ((200 * r + bs.length : Nat) : Int)) (iI (mi : Int)) (iI (nn : Int)) (iI (pl : Int)) 0 (iI (dn : Int)) h = some (iI (match rdX (fun k => bAt bs (k : Int)) k c pl with | none => 0 | some t => if t.1 = bs.length then 1 else 0), h') ∧ km h h' z ∧ ∀ t, nn ≠ 0 → rdX (fun k => bAt bs (k : Int)) k c pl = some t → isM h' z (nrm (if mi = 0 then 1 else -1) t.2.1 t.2.2).1 (nrm (if mi = 0 then 1 else -1) t.2.1 t.2.2).2.1 (nrm (if mi = 0 then 1 else -1) t.2.1 t.2.2).2.2 := by
          intro dn hdn hd
          unfold f_M_read_312
          have ez : iI ((200 * r + (k + 1) : Nat) : Int) + 0 = iI ((200 * r + (k + 1) : Nat) : Int) := by rw [i0, iI_add]; congr 1
          have ep : iI ((200 * r + (k + 1) : Nat) : Int) + 1 = iI ((200 * r + (k + 1 + 1) : Nat) : Int) := by rw [i1, iI_add]; congr 1
          rw [ez, ep]
          rcases Nat.lt_or_ge (k + 1) bs.length with q1 | q1
          · rw [if_neg (nleN (by omega) (by omega) (by omega)), chk_t (inB hr (by omega)), chk_t (inB hr (by omega))]
            simp only [clB hr (show k + 1 < 2000 by omega), H.2.2 (k + 1) q1]
            by_cases y : bAt bs ((k + 1 : Nat) : Int) = 43
            · rw [if_pos (by rw [y]; rfl)]
              exact fin _ (by omega) (by rw [if_pos (Or.inl y)]) dn hdn hd
            · rw [if_neg (by rw [show (43 : Int32) = iI 43 from rfl, iI_eq ⟨by omega, by omega⟩ ⟨by omega, by omega⟩]; exact y)]
              by_cases y2 : bAt bs ((k + 1 : Nat) : Int) = 45
              · rw [if_pos (by rw [y2]; rfl)]
                exact fin _ (by omega) (by rw [if_pos (Or.inr y2)]) dn hdn hd
              · rw [if_neg (by rw [show (45 : Int32) = iI 45 from rfl, iI_eq ⟨by omega, by omega⟩ ⟨by omega, by omega⟩]; exact y2)]
                exact fin _ (by omega) (by rw [if_neg (by omega)]) dn hdn hd
          · have := bAt_out q1
            rw [if_pos (leN (by omega) (by omega) (by omega))]
            exact fin _ (by omega) (by rw [if_neg (by omega)]) dn hdn hd
        rcases Nat.lt_or_ge (k + 1) bs.length with q1 | q1
        · rw [if_neg (nleN (by omega) (by omega) (by omega)), chk_t (inB hr (by omega))]
          simp only [clB hr (show k + 1 < 2000 by omega), H.2.2 (k + 1) q1]
          by_cases y2 : bAt bs ((k + 1 : Nat) : Int) = 45
          · rw [if_pos (by rw [y2]; rfl)]
            exact all 1 (by omega) ⟨fun _ => y2, fun _ => rfl⟩
          · rw [if_neg (by rw [show (45 : Int32) = iI 45 from rfl, iI_eq ⟨by omega, by omega⟩ ⟨by omega, by omega⟩]; exact y2)]
            exact all 0 (by omega) ⟨fun a => by omega, fun a => absurd a y2⟩
        · have := bAt_out q1
          rw [if_pos (leN (by omega) (by omega) (by omega))]
          exact all 0 (by omega) ⟨fun a => by omega, fun a => by omega⟩
      · rw [if_neg (by rw [show (69 : Int32) = iI 69 from rfl, iI_eq ⟨by omega, by omega⟩ ⟨by omega, by omega⟩]; omega), if_neg (by rw [show (101 : Int32) = iI 101 from rfl, iI_eq ⟨by omega, by omega⟩ ⟨by omega, by omega⟩]; omega)]
        exact plain nb
    · have := bAt_out q
      rw [if_pos (leN (by omega) (by omega) (by omega))]
      exact plain (by omega)
theorem M_read {r z : Nat} {bs : List Nat} {h : Hp} (hr : r < 10) (hz : z < 5) (R : isR h r bs) (ok : okB bs 200) : ∃ h', f_M_read (iI (r : Int)) (iI (z : Int)) h = some (iI (if rdN bs = none then 0 else 1), h') ∧ km h h' z ∧ ∀ t, rdN bs = some t → isM h' z t.1 t.2.1 t.2.2 := by
  have H := isE_of R ok
  have hl := H.1
  have hK := rdK_le bs
  have hEn := rdEnd_le bs
  have hEl : (bs.take (rdEnd bs)).length = rdEnd bs := by rw [List.length_take]; omega
  have H' := isE_tk (E := rdEnd bs) H
  unfold f_M_read
  have e0 : (200 : Int32) * iI (r : Int) = iI ((200 * r + 0 : Nat) : Int) := by rw [show (200 : Int32) = iI 200 from rfl, iI_mul]; rfl
  have e1 : iI ((200 * r + 0 : Nat) : Int) + iI (bs.length : Int) = iI ((200 * r + bs.length : Nat) : Int) := by rw [iI_add]; congr 1
  rw [chk_t (iI_inR (by omega) (by omega) (by omega)), e0, clN (by omega), R.1, e1, M_r16 hr H bs.length 0 fuel (by omega) (by unfold fuel; omega)]
  have e39 := M_r39 (z := z) (k := rdK bs) hr H (bs.length - rdK bs) fuel (by omega) (by unfold fuel; omega)
  rw [show rdK bs + (bs.length - rdK bs) = bs.length by omega] at e39
  refine (show ∃ h', f_M_read_39 fuel (iI (z : Int)) (iI ((200 * r + rdK bs : Nat) : Int)) (iI ((200 * r + bs.length : Nat) : Int)) h = _ ∧ _ from ?_)
  rw [e39, show trm bs (rdK bs) (bs.length - rdK bs) = rdEnd bs from rfl, ← rdM_eq bs]
  have fin : ∀ (k2 mi : Nat), k2 ≤ rdEnd bs → rdM2 bs = k2 → mi ≤ 1 → (mi = 1 ↔ bAt (bs.take (rdEnd bs)) (rdK bs : Int) = 45) → ∃ h', f_M_read_152 fuel (iI (z : Int)) (iI ((200 * r + k2 : Nat) : Int)) (iI ((200 * r + rdEnd bs : Nat) : Int)) (iI (mi : Int)) 0 0 0 h = some (iI (if rdM bs = none then 0 else 1), h') ∧ km h h' z ∧ ∀ t, rdM bs = some t → isM h' z t.1 t.2.1 t.2.2 := by
    intro k2 mi hk2 ek hmi hm
    obtain ⟨h1, e1, F1, n1, K1⟩ := M_r152 (bs := bs.take (rdEnd bs)) (mi := iI (mi : Int)) hr hz (rdEnd bs - k2) k2 fuel h 0 0 0 0 H' (by omega) (by unfold fuel; omega) ⟨fun _ => 0, fun k hk => by omega, fun k hk => by omega, rfl⟩ (by omega) (by omega)
    rw [hEl] at e1
    have hD := rdD_k (fun k => bAt (bs.take (rdEnd bs)) (k : Int)) (rdEnd bs - k2) k2 0 0 0 0
    obtain ⟨h2, e2, K2, R2⟩ := M_r249 (bs := bs.take (rdEnd bs)) (mi := mi) (k := (rdD (fun k => bAt (bs.take (rdEnd bs)) (k : Int)) (rdEnd bs - k2) k2 0 0 0 0).1) (pl := (rdD (fun k => bAt (bs.take (rdEnd bs)) (k : Int)) (rdEnd bs - k2) k2 0 0 0 0).2.2.2) hr hz hmi (isE_km H' K1) (by rw [hEl]; omega) n1 F1
    rw [hEl] at e2
    have es : (if mi = 0 then (1 : Int) else -1) = (if bAt (bs.take (rdEnd bs)) (rdK bs : Int) = 45 then -1 else 1) := by
      by_cases y : mi = 0
      · rw [if_pos y, if_neg (by omega)]
      · rw [if_neg y, if_pos (by omega)]
    rw [es] at R2
    refine ⟨h2, (e1.trans e2).trans ?_, km_t K1 K2, ?_⟩
    · congr 3
      unfold rdM rdT
      rw [ek]
      by_cases n0 : (rdD (fun k => bAt (bs.take (rdEnd bs)) (k : Int)) (rdEnd bs - k2) k2 0 0 0 0).2.2.1 = 0
      · rw [if_pos n0, if_pos n0]
        rfl
      · rw [if_neg n0, if_neg n0]
        cases hx : rdX (fun k => bAt (bs.take (rdEnd bs)) (k : Int)) (rdD (fun k => bAt (bs.take (rdEnd bs)) (k : Int)) (rdEnd bs - k2) k2 0 0 0 0).1 (rdD (fun k => bAt (bs.take (rdEnd bs)) (k : Int)) (rdEnd bs - k2) k2 0 0 0 0).2.1 (rdD (fun k => bAt (bs.take (rdEnd bs)) (k : Int)) (rdEnd bs - k2) k2 0 0 0 0).2.2.2 with
        | none => rfl
        | some t =>
          show (if t.1 = rdEnd bs then (1 : Int) else 0) = (if (if t.1 = rdEnd bs then _ else none) = none then 0 else 1)
          by_cases y : t.1 = rdEnd bs
          · rw [if_pos y, if_pos y, if_neg (by simp)]
          · rw [if_neg y, if_neg y, if_pos rfl]
    · intro t ht
      unfold rdM rdT at ht
      rw [ek] at ht
      by_cases n0 : (rdD (fun k => bAt (bs.take (rdEnd bs)) (k : Int)) (rdEnd bs - k2) k2 0 0 0 0).2.2.1 = 0
      · rw [if_pos n0] at ht
        cases ht
      · rw [if_neg n0] at ht
        cases hx : rdX (fun k => bAt (bs.take (rdEnd bs)) (k : Int)) (rdD (fun k => bAt (bs.take (rdEnd bs)) (k : Int)) (rdEnd bs - k2) k2 0 0 0 0).1 (rdD (fun k => bAt (bs.take (rdEnd bs)) (k : Int)) (rdEnd bs - k2) k2 0 0 0 0).2.1 (rdD (fun k => bAt (bs.take (rdEnd bs)) (k : Int)) (rdEnd bs - k2) k2 0 0 0 0).2.2.2 with
        | none => rw [hx] at ht; cases ht
        | some u =>
          have M := R2 u n0 hx
          rw [hx] at ht
          have ht2 : (if u.1 = rdEnd bs then some (nrm (if bAt (bs.take (rdEnd bs)) (rdK bs : Int) = 45 then -1 else 1) u.2.1 u.2.2) else none) = some t := ht
          by_cases y : u.1 = rdEnd bs
          · rw [if_pos y] at ht2
            have := (Option.some.inj ht2).symm
            subst this
            exact M
          · rw [if_neg y] at ht2; cases ht2
  have all : ∀ mi : Nat, mi ≤ 1 → (mi = 1 ↔ bAt (bs.take (rdEnd bs)) (rdK bs : Int) = 45) → ∃ h', f_M_read_87 (iI (z : Int)) (iI ((200 * r + rdK bs : Nat) : Int)) (iI ((200 * r + rdEnd bs : Nat) : Int)) (iI (mi : Int)) h = some (iI (if rdM bs = none then 0 else 1), h') ∧ km h h' z ∧ ∀ t, rdM bs = some t → isM h' z t.1 t.2.1 t.2.2 := by
    intro mi hmi hm
    unfold f_M_read_87
    rcases Nat.lt_or_ge (rdK bs) (rdEnd bs) with q | q
    · have hrg := bAt_rg H'.2.1 (rdK bs : Int)
      rw [if_neg (nleN (by omega) (by omega) (by omega)), chk_t (inB hr (by omega)), chk_t (inB hr (by omega))]
      simp only [clB hr (show rdK bs < 2000 by omega), H'.2.2 (rdK bs) (by omega)]
      have ea : iI ((200 * r + rdK bs : Nat) : Int) + 1 = iI ((200 * r + (rdK bs + 1) : Nat) : Int) := by rw [i1, iI_add]; congr 1
      have e120 := M_r120 (z := z) (mi := iI (mi : Int)) (bs := bs.take (rdEnd bs)) hr H' (rdEnd bs - (rdK bs + 1)) (rdK bs + 1) fuel (by omega) (by unfold fuel; omega)
      rw [hEl] at e120
      have hs := skp_le (bs.take (rdEnd bs)) (rdEnd bs - (rdK bs + 1)) (rdK bs + 1)
      rw [ea, e120]
      by_cases y : bAt (bs.take (rdEnd bs)) (rdK bs : Int) = 43
      · rw [if_pos (by rw [y]; rfl)]
        exact fin _ mi (by omega) (by unfold rdM2; rw [if_pos (Or.inl y)]) hmi hm
      · rw [if_neg (by rw [show (43 : Int32) = iI 43 from rfl, iI_eq ⟨by omega, by omega⟩ ⟨by omega, by omega⟩]; exact y)]
        by_cases y2 : bAt (bs.take (rdEnd bs)) (rdK bs : Int) = 45
        · rw [if_pos (by rw [y2]; rfl)]
          exact fin _ mi (by omega) (by unfold rdM2; rw [if_pos (Or.inr y2)]) hmi hm
        · rw [if_neg (by rw [show (45 : Int32) = iI 45 from rfl, iI_eq ⟨by omega, by omega⟩ ⟨by omega, by omega⟩]; exact y2)]
          exact fin _ mi (by omega) (by unfold rdM2; rw [if_neg (by omega)]) hmi hm
    · have := bAt_out (bs := bs.take (rdEnd bs)) (k := rdK bs) (by omega)
      rw [if_pos (leN (by omega) (by omega) (by omega))]
      exact fin _ mi (by omega) (by unfold rdM2; rw [if_neg (by omega)]) hmi hm
  unfold f_M_read_65
  rcases Nat.lt_or_ge (rdK bs) (rdEnd bs) with q | q
  · have hrg := bAt_rg H'.2.1 (rdK bs : Int)
    rw [if_neg (nleN (by omega) (by omega) (by omega)), chk_t (inB hr (by omega))]
    simp only [clB hr (show rdK bs < 2000 by omega), H'.2.2 (rdK bs) (by omega)]
    by_cases y2 : bAt (bs.take (rdEnd bs)) (rdK bs : Int) = 45
    · rw [if_pos (by rw [y2]; rfl)]
      exact all 1 (by omega) ⟨fun _ => y2, fun _ => rfl⟩
    · rw [if_neg (by rw [show (45 : Int32) = iI 45 from rfl, iI_eq ⟨by omega, by omega⟩ ⟨by omega, by omega⟩]; exact y2)]
      exact all 0 (by omega) ⟨fun a => by omega, fun a => absurd a y2⟩
  · have := bAt_out (bs := bs.take (rdEnd bs)) (k := rdK bs) (by omega)
    rw [if_pos (leN (by omega) (by omega) (by omega))]
    exact all 0 (by omega) ⟨fun a => by omega, fun a => by omega⟩
