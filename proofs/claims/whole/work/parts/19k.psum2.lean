/-! PURE 19: the class's sum -/
theorem exS_comm {t u : Int × Nat × Int} (ht : 0 < t.2.1) (hu : 0 < u.2.1) : exS t u = exS u t := by
  have el : lwE u t = lwE t u := by
    unfold lwE
    split <;> split <;> omega
  unfold exS
  have ht' : ¬ t.2.1 = 0 := by omega
  have hu' : ¬ u.2.1 = 0 := by omega
  rw [if_neg hu', if_neg ht', if_neg ht', if_neg hu', el]
  by_cases q : t.1 = u.1
  · rw [if_pos q, if_pos q.symm, q, Nat.add_comm]
  · rw [if_neg q, if_neg (show ¬ u.1 = t.1 from fun z => q z.symm)]
    by_cases a : sX t.2.1 t.2.2 (lwE t u) < sX u.2.1 u.2.2 (lwE t u)
    · rw [if_pos a, if_neg (show ¬ sX u.2.1 u.2.2 (lwE t u) < sX t.2.1 t.2.2 (lwE t u) by omega)]
    · rw [if_neg a]
      by_cases b : sX u.2.1 u.2.2 (lwE t u) < sX t.2.1 t.2.2 (lwE t u)
      · rw [if_pos b]
      · rw [if_neg b, show sX u.2.1 u.2.2 (lwE t u) = sX t.2.1 t.2.2 (lwE t u) by omega, Nat.sub_self]
        rfl
theorem nd_30 {c : Nat} (hc : 0 < c) : 30 ≤ nd (c * 10 ^ 30 - 1) := by
  have a : 1 * 10 ^ 29 ≤ c * 10 ^ 30 - 1 := by
    have : 1 * 10 ^ 30 ≤ c * 10 ^ 30 := Nat.mul_le_mul_right _ hc
    omega
  have b := nd_mono a
  rw [nd_mulp (by decide), nd_1] at b
  omega
/-- the small number stands far below the big one's last digit: a speck does as well -/
theorem sum_far {t u : Int × Nat × Int} (ht : 0 < t.2.1) (hu : 0 < u.2.1) (hf : (nd u.2.1 : Int) + u.2.2 ≤ t.2.2 - 30) : (exS t (u.1, 1, t.2.2 - 31)).1 = (exS t u).1 ∧ ∀ n, 0 < n → n ≤ 20 → rN n (exS t (u.1, 1, t.2.2 - 31)) = rN n (exS t u) := by
  have pu := nd_pos hu
  have e1 : lwE t u = u.2.2 := if_pos (by omega)
  have e2 : lwE t (u.1, 1, t.2.2 - 31) = t.2.2 - 31 := if_pos (by show t.2.2 - 31 ≤ t.2.2; omega)
  obtain ⟨j, hj⟩ : ∃ j : Nat, (t.2.2 - u.2.2).toNat = 30 + j := ⟨(t.2.2 - u.2.2).toNat - 30, by omega⟩
  have X1 : sX t.2.1 t.2.2 u.2.2 = t.2.1 * 10 ^ 30 * 10 ^ j := by
    unfold sX
    rw [hj, Nat.pow_add, Nat.mul_assoc]
  have Y1 : sX u.2.1 u.2.2 u.2.2 = u.2.1 := by
    unfold sX
    rw [Int.sub_self]
    show u.2.1 * 10 ^ 0 = _
    rw [Nat.pow_zero, Nat.mul_one]
  have X2 : sX t.2.1 t.2.2 (t.2.2 - 31) = t.2.1 * 10 ^ 30 * 10 ^ 1 := by
    unfold sX
    rw [show (t.2.2 - (t.2.2 - 31)).toNat = 30 + 1 by omega, Nat.pow_add, Nat.mul_assoc]
  have Y2 : sX 1 (t.2.2 - 31) (t.2.2 - 31) = 1 := by
    unfold sX
    rw [Int.sub_self]
    rfl
  have hy : u.2.1 < 10 ^ j := Nat.lt_of_lt_of_le (nd_lt u.2.1) (Nat.pow_le_pow_right (by decide) (by omega))
  obtain ⟨Q, hQ⟩ : ∃ Q, t.2.1 * 10 ^ 30 = Q := ⟨_, rfl⟩
  have hQ1 : 31 ≤ nd Q := by
    rw [← hQ, nd_mulp ht]
    have := nd_pos ht
    omega
  have hQ2 : 30 ≤ nd (Q - 1) := by
    rw [← hQ]
    exact nd_30 ht
  have hQ0 : 0 < Q := by
    rw [← hQ]
    exact Nat.mul_pos ht (p10 _)
  obtain ⟨P, hP⟩ : ∃ P, 10 ^ j = P := ⟨_, rfl⟩
  have hP0 : 0 < P := by
    rw [← hP]
    exact p10 _
  rw [hQ] at X1 X2
  rw [hP] at X1 hy
  have QP : P ≤ Q * P := Nat.le_mul_of_pos_left _ hQ0
  have D1 : (Q * P + u.2.1) / P = Q := by rw [Nat.mul_comm, Nat.mul_add_div hP0, Nat.div_eq_of_lt hy, Nat.add_zero]
  have D2 : (Q * P - u.2.1) / P = Q - 1 := by
    have : Q * P - u.2.1 = P * (Q - 1) + (P - u.2.1) := by
      rw [Nat.mul_sub, Nat.mul_one, Nat.mul_comm P Q]
      omega
    rw [this, Nat.mul_add_div hP0, Nat.div_eq_of_lt (by omega), Nat.add_zero]
  have D3 : (Q * 10 ^ 1 + 1) / 10 ^ 1 = Q := by omega
  have D4 : (Q * 10 ^ 1 - 1) / 10 ^ 1 = Q - 1 := by omega
  have ee : t.2.2 - 31 + ((1 : Nat) : Int) = u.2.2 + (j : Int) := by omega
  have r1 : ∀ n, n ≤ 20 → rnd n (Q * 10 ^ 1 + 1) (t.2.2 - 31) = rnd n (Q * P + u.2.1) u.2.2 := fun n hn => by
    rw [rnd_div (c := Q * 10 ^ 1 + 1) (j := 1) (by rw [D3]; omega), D3, rnd_div (c := Q * P + u.2.1) (j := j) (by rw [hP, D1]; omega), hP, D1, ee]
  have r2 : ∀ n, n ≤ 20 → rnd n (Q * 10 ^ 1 - 1) (t.2.2 - 31) = rnd n (Q * P - u.2.1) u.2.2 := fun n hn => by
    rw [rnd_div (c := Q * 10 ^ 1 - 1) (j := 1) (by rw [D4]; omega), D4, rnd_div (c := Q * P - u.2.1) (j := j) (by rw [hP, D2]; omega), hP, D2, ee]
  have A : exS t u = if t.1 = u.1 then (t.1, Q * P + u.2.1, u.2.2) else (t.1, Q * P - u.2.1, u.2.2) := by
    unfold exS nrm
    rw [if_neg (by omega), if_neg (by omega), e1, X1, Y1]
    by_cases q : t.1 = u.1
    · rw [if_pos q, if_pos q, if_neg (by omega)]
    · rw [if_neg q, if_neg q, if_neg (by omega), if_neg (by omega)]
  have B : exS t (u.1, 1, t.2.2 - 31) = if t.1 = u.1 then (t.1, Q * 10 ^ 1 + 1, t.2.2 - 31) else (t.1, Q * 10 ^ 1 - 1, t.2.2 - 31) := by
    unfold exS nrm
    rw [e2]
    show (if (1 : Nat) = 0 then t else if t.2.1 = 0 then (u.1, 1, t.2.2 - 31) else if t.1 = u.1 then (if sX t.2.1 t.2.2 (t.2.2 - 31) + sX 1 (t.2.2 - 31) (t.2.2 - 31) = 0 then (0, 0, 0) else (t.1, sX t.2.1 t.2.2 (t.2.2 - 31) + sX 1 (t.2.2 - 31) (t.2.2 - 31), t.2.2 - 31)) else if sX t.2.1 t.2.2 (t.2.2 - 31) < sX 1 (t.2.2 - 31) (t.2.2 - 31) then _ else (if sX t.2.1 t.2.2 (t.2.2 - 31) - sX 1 (t.2.2 - 31) (t.2.2 - 31) = 0 then (0, 0, 0) else (t.1, sX t.2.1 t.2.2 (t.2.2 - 31) - sX 1 (t.2.2 - 31) (t.2.2 - 31), t.2.2 - 31))) = _
    rw [if_neg (by omega), if_neg (by omega), X2, Y2]
    by_cases q : t.1 = u.1
    · rw [if_pos q, if_pos q, if_neg (by omega)]
    · rw [if_neg q, if_neg q, if_neg (by omega), if_neg (by omega)]
  rw [A, B]
  by_cases q : t.1 = u.1
  · rw [if_pos q, if_pos q]
    refine ⟨rfl, fun n h0 hn => ?_⟩
    unfold rN
    show (t.1, (rnd n (Q * 10 ^ 1 + 1) (t.2.2 - 31)).1, (rnd n (Q * 10 ^ 1 + 1) (t.2.2 - 31)).2) = (t.1, (rnd n (Q * P + u.2.1) u.2.2).1, (rnd n (Q * P + u.2.1) u.2.2).2)
    rw [r1 n hn]
  · rw [if_neg q, if_neg q]
    refine ⟨rfl, fun n h0 hn => ?_⟩
    unfold rN
    show (t.1, (rnd n (Q * 10 ^ 1 - 1) (t.2.2 - 31)).1, (rnd n (Q * 10 ^ 1 - 1) (t.2.2 - 31)).2) = (t.1, (rnd n (Q * P - u.2.1) u.2.2).1, (rnd n (Q * P - u.2.1) u.2.2).2)
    rw [r2 n hn]
def nearT (a b : Int × Nat × Int) : Int × Nat × Int := if (nd b.2.1 : Int) + b.2.2 ≤ a.2.2 - 30 then (b.1, 1, a.2.2 - 31) else b
theorem sum_near {t u : Int × Nat × Int} (ht : 0 < t.2.1) (hu : 0 < u.2.1) : (exS (nearT u t) (nearT t u)).1 = (exS t u).1 ∧ ∀ n, 0 < n → n ≤ 20 → rN n (exS (nearT u t) (nearT t u)) = rN n (exS t u) := by
  have pt := nd_pos ht
  have pu := nd_pos hu
  by_cases q : (nd u.2.1 : Int) + u.2.2 ≤ t.2.2 - 30
  · have e1 : nearT t u = (u.1, 1, t.2.2 - 31) := if_pos q
    have e2 : nearT u t = t := if_neg (by omega)
    rw [e1, e2]
    exact sum_far ht hu q
  · have e1 : nearT t u = u := if_neg q
    rw [e1]
    by_cases q2 : (nd t.2.1 : Int) + t.2.2 ≤ u.2.2 - 30
    · have e2 : nearT u t = (t.1, 1, u.2.2 - 31) := if_pos q2
      have := sum_far hu ht q2
      rw [e2, exS_comm (t := (t.1, 1, u.2.2 - 31)) Nat.one_pos hu, exS_comm ht hu]
      exact this
    · have e2 : nearT u t = t := if_neg q2
      rw [e2]
      exact ⟨rfl, fun _ _ _ => rfl⟩
theorem K_near {i j : Nat} {a b : Int × Nat × Int} {sa sb : Int} {h : Hp} (hj : j ≠ 38) (hj1 : j ≠ 39) (ba : -1000000 ≤ a.2.2 ∧ a.2.2 ≤ 1000000) (bb : -1000000 ≤ b.2.2 ∧ b.2.2 ≤ 1000000) (nb : nd b.2.1 ≤ 500) (Na : isN h i sa a.2.1 a.2.2) (Nb : isN h j sb b.2.1 b.2.2) : ∃ h' x σ, f_K_nearTo i j h = some (x, h') ∧ ((x = j ∧ h' = h ∧ nearT a b = b) ∨ (x = 38 ∧ (nd b.2.1 : Int) + b.2.2 ≤ a.2.2 - 30)) ∧ isN h' x σ (nearT a b).2.1 (nearT a b).2.2 ∧ kp h h' 38 39 := by
  unfold f_K_nearTo
  rw [bd_t (N_ahead Nb), Na.2.1, show (30 : Int32) = iI 30 from rfl, iI_sub]
  by_cases q : (nd b.2.1 : Int) + b.2.2 ≤ a.2.2 - 30
  · have en : nearT a b = (b.1, 1, a.2.2 - 31) := if_pos q
    rw [if_pos (by rw [iI_le ⟨by omega, by omega⟩ ⟨by omega, by omega⟩]; exact q), en]
    obtain ⟨h1, e1, N1, k1⟩ := N_unit (h := h) (i := 38) (s := 1) (by decide) ⟨by omega, by omega⟩
    rw [bd_t (show f_N_becomeUnit 38 1 h = _ from e1), i1, iI_sub]
    refine ⟨_, 38, 1, rfl, Or.inr ⟨rfl, q⟩, ?_, kp_t k1 (kp_up _ _ _ _ _)⟩
    rw [if_neg (by decide)] at N1
    refine ⟨isD_eq N1.1 (up2_k _ _ _ (by omega)) (up2_ne _ _ _ (by omega)), ?_, ?_⟩
    · rw [up2_s]
      show iI _ = iI (a.2.2 - 31)
      congr 1
      omega
    · rw [up2_k _ _ _ (by omega)]
      exact N1.2.2
  · have en : nearT a b = b := if_neg q
    rw [if_neg (by rw [iI_le ⟨by omega, by omega⟩ ⟨by omega, by omega⟩]; exact q), en]
    exact ⟨h, j, sb, rfl, Or.inl ⟨rfl, rfl, rfl⟩, Nb, kp_r _ _ _⟩
/-- fill and take -/
theorem K_both {r q K : Nat} {t u : Int × Nat × Int} {s1 s2 s L g : Int} {h : Hp} (hr : r ≠ 35) (hr1 : r + 1 ≠ 35) (hq : q ≠ 35) (hq1 : q + 1 ≠ 35) (hg : g = 1 ∨ g = -1) (b1 : -1000000 ≤ t.2.2 ∧ t.2.2 ≤ 1000000) (b2 : -1000000 ≤ u.2.2 ∧ u.2.2 ≤ 1000000) (bL : -1000000 ≤ L ∧ L ≤ 1000000) (l1 : L ≤ t.2.2) (l2 : L ≤ u.2.2) (hK : K ≤ 100) (hX : sX t.2.1 t.2.2 L < 10 ^ K) (hY : sX u.2.1 u.2.2 L < 10 ^ K) (h0 : 0 ≤ (sX t.2.1 t.2.2 L : Int) + g * (sX u.2.1 u.2.2 L : Int)) (h1 : (sX t.2.1 t.2.2 L : Int) + g * (sX u.2.1 u.2.2 L : Int) < ((10 ^ K : Nat) : Int)) (N1 : isN h r s1 t.2.1 t.2.2) (N2 : isN h q s2 u.2.1 u.2.2) : ∃ h1 h2, f_K_fillCells r q (iI g) (iI L) (iI (K : Int)) h = some ((), h1) ∧ (∀ y, y ≠ 35 → h1 y = h y) ∧ f_K_takeCells (iI (K : Int)) (iI L) (iI s) 33 h1 = some ((), h2) ∧ isN h2 33 (nrm s ((sX t.2.1 t.2.2 L : Int) + g * (sX u.2.1 u.2.2 L : Int)).toNat L).1 (nrm s ((sX t.2.1 t.2.2 L : Int) + g * (sX u.2.1 u.2.2 L : Int)).toNat L).2.1 (nrm s ((sX t.2.1 t.2.2 L : Int) + g * (sX u.2.1 u.2.2 L : Int)).toNat L).2.2 ∧ kp h1 h2 33 34 := by
  obtain ⟨g1, e1, F1, k1⟩ := K_fill (X := sX t.2.1 t.2.2 L) (Y := sX u.2.1 u.2.2 L) hr hr1 hq hq1 hg b1 b2 bL (sX_d l1) (sX_d l2) hK K 0 fuel h (by omega) (by unfold fuel; omega) N1 N2 (fun q hq => absurd hq (Nat.not_lt_zero q))
  obtain ⟨g2, e2, N3, k2⟩ := K_take (i := 33) (s := s) (e := L) (h := g1) (fun q _ => (dgF_p (X := sX t.2.1 t.2.2 L) (Y := sX u.2.1 u.2.2 L) hg q).2) hK (by decide) (by omega) (by omega) F1
  have el := le_sum hg hX hY h0 h1
  rw [show le (dgF (sX t.2.1 t.2.2 L) (sX u.2.1 u.2.2 L) g) K = ((sX t.2.1 t.2.2 L : Int) + g * (sX u.2.1 u.2.2 L : Int)).toNat by omega] at N3
  exact ⟨g1, g2, e1, k1, e2, N3, k2⟩
/-- what the class's sum touches -/
def kS (h h' : Hp) : Prop := ∀ y, y ≠ 33 → y ≠ 34 → y ≠ 35 → y ≠ 38 → y ≠ 39 → h' y = h y
theorem lw_iI {a b : Int} (ha : bI a) (hb : bI b) : (if iI b < iI a then iI b else iI a) = iI (if b ≤ a then b else a) := by
  by_cases q : b < a
  · rw [if_pos (by rw [iI_lt hb ha]; exact q), if_pos (by omega)]
  · rw [if_neg (by rw [iI_lt hb ha]; exact q)]
    by_cases z : b ≤ a
    · rw [if_pos z, show a = b by omega]
    · rw [if_neg z]
theorem mx_Int {a b : Int} (ha : bI a) (hb : bI b) : (if iI a < iI b then iI b else iI a) = iI (max a b) := by
  by_cases q : a < b
  · rw [if_pos (by rw [iI_lt ha hb]; exact q), show max a b = b by omega]
  · rw [if_neg (by rw [iI_lt ha hb]; exact q), show max a b = a by omega]
def sumTail (v1 v4 : Nat) (s0 L K : Int32) (r q : Nat) (h : Hp) : Option (Unit × Hp) := if (h v1 3) = s0 then bd (f_K_fillCells r q 1 L K h) (fun _u123 h123 => bd (f_K_takeCells K L (h123 v1 3) v4 h123) (fun _u137 h137 => some ((), h137))) else bd (f_K_isBelow r q h) (fun r147 h147 => if r147 = 0 then bd (f_K_fillCells r q (-1) L K h147) (fun _u191 h191 => bd (f_K_takeCells K L (h191 v1 3) v4 h191) (fun _u205 h205 => some ((), h205))) else bd (f_K_fillCells q r (-1) L K h147) (fun _u163 h163 => bd (f_K_takeCells K L s0 v4 h163) (fun _u175 h175 => some ((), h175))))
theorem C_tail {r q K : Nat} {T U : Int × Nat × Int} {σ1 σ2 : Int} {h : Hp} (hr : r ≠ 35 ∧ r + 1 ≠ 35) (hq : q ≠ 35 ∧ q + 1 ≠ 35) (sT : -1 ≤ T.1 ∧ T.1 ≤ 1) (sU : -1 ≤ U.1 ∧ U.1 ≤ 1) (cT : 0 < T.2.1) (cU : 0 < U.2.1) (nT : nd T.2.1 ≤ 40) (nU : nd U.2.1 ≤ 40) (bT : -20000 ≤ T.2.2 ∧ T.2.2 ≤ 20000) (bU : -20000 ≤ U.2.2 ∧ U.2.2 ≤ 20000) (hK : max ((nd T.2.1 : Int) + T.2.2) ((nd U.2.1 : Int) + U.2.2) - lwE T U + 1 = (K : Int)) (hK2 : K ≤ 100) (h3 : h 29 3 = iI T.1) (N1 : isN h r σ1 T.2.1 T.2.2) (N2 : isN h q σ2 U.2.1 U.2.2) : ∃ h', sumTail 29 33 (iI U.1) (iI (lwE T U)) (iI (K : Int)) r q h = some ((), h') ∧ isN h' 33 (exS T U).1 (exS T U).2.1 (exS T U).2.2 ∧ ∀ y, y ≠ 33 → y ≠ 34 → y ≠ 35 → h' y = h y := by
  obtain ⟨l1, l2, l3⟩ := lwE_p T U
  have pT := nd_pos cT
  have pU := nd_pos cU
  have X1 := sX_lt (c := T.2.1) (K := K - 1) l1 (by omega)
  have Y1 := sX_lt (c := U.2.1) (K := K - 1) l2 (by omega)
  have P1 : 10 ^ K = 10 ^ (K - 1) * 10 := by
    rw [← Nat.pow_succ]
    congr 1
    omega
  have bL : -1000000 ≤ lwE T U ∧ lwE T U ≤ 1000000 := by omega
  have bT2 : -1000000 ≤ T.2.2 ∧ T.2.2 ≤ 1000000 := by omega
  have bU2 : -1000000 ≤ U.2.2 ∧ U.2.2 ≤ 1000000 := by omega
  have X2 : sX T.2.1 T.2.2 (lwE T U) < 10 ^ K := by omega
  have Y2 : sX U.2.1 U.2.2 (lwE T U) < 10 ^ K := by omega
  have XY : sX T.2.1 T.2.2 (lwE T U) + sX U.2.1 U.2.2 (lwE T U) < 10 ^ K := by omega
  have exTU : exS T U = if T.1 = U.1 then nrm T.1 (sX T.2.1 T.2.2 (lwE T U) + sX U.2.1 U.2.2 (lwE T U)) (lwE T U) else if sX T.2.1 T.2.2 (lwE T U) < sX U.2.1 U.2.2 (lwE T U) then nrm U.1 (sX U.2.1 U.2.2 (lwE T U) - sX T.2.1 T.2.2 (lwE T U)) (lwE T U) else nrm T.1 (sX T.2.1 T.2.2 (lwE T U) - sX U.2.1 U.2.2 (lwE T U)) (lwE T U) := by
    unfold exS
    rw [if_neg (show ¬ U.2.1 = 0 by omega), if_neg (show ¬ T.2.1 = 0 by omega)]
  have fin : ∀ (g1 g2 : Hp), (∀ y, y ≠ 35 → g1 y = h y) → kp g1 g2 33 34 → ∀ y, y ≠ 33 → y ≠ 34 → y ≠ 35 → g2 y = h y := fun g1 g2 a b y y1 y2 y3 => by rw [b y y1 y2, a y y3]
  clear l3 hK X1 Y1 P1
  obtain ⟨X, hX⟩ : ∃ X, sX T.2.1 T.2.2 (lwE T U) = X := ⟨_, rfl⟩
  obtain ⟨Y, hY⟩ : ∃ Y, sX U.2.1 U.2.2 (lwE T U) = Y := ⟨_, rfl⟩
  rw [hX, hY] at exTU XY
  rw [hX] at X2
  rw [hY] at Y2
  unfold sumTail
  rw [h3]
  by_cases q3 : T.1 = U.1
  · rw [if_pos (by rw [q3])]
    rw [if_pos q3] at exTU
    obtain ⟨g1, g2, a1, a2, a3, a4, a5⟩ := K_both (r := r) (q := q) (K := K) (t := T) (u := U) (s := T.1) (L := lwE T U) (g := 1) hr.1 hr.2 hq.1 hq.2 (Or.inl rfl) bT2 bU2 bL l1 l2 hK2 (by rw [hX]; exact X2) (by rw [hY]; exact Y2) (by omega) (by rw [hX, hY]; omega) N1 N2
    rw [bd_t (show f_K_fillCells r q 1 (iI (lwE T U)) (iI (K : Int)) h = _ from a1), a2 29 (by omega), h3, bd_t a3]
    rw [hX, hY, show ((X : Int) + 1 * (Y : Int)).toNat = X + Y by omega, ← exTU] at a4
    exact ⟨g2, rfl, a4, fin g1 g2 a2 a5⟩
  rw [if_neg (by rw [iI_eq ⟨by omega, by omega⟩ ⟨by omega, by omega⟩]; exact q3)]
  rw [if_neg q3] at exTU
  have kb := K_below (t := T) (u := U) cT cU bT2 bU2 (by omega) (by omega) N1 N2
  rw [hX, hY] at kb
  rw [bd_t kb]
  by_cases q4 : X < Y
  · rw [if_pos q4] at exTU
    rw [if_neg (by rw [if_pos q4]; decide)]
    obtain ⟨g1, g2, a1, a2, a3, a4, a5⟩ := K_both (r := q) (q := r) (K := K) (t := U) (u := T) (s := U.1) (L := lwE T U) (g := -1) hq.1 hq.2 hr.1 hr.2 (Or.inr rfl) bU2 bT2 bL l2 l1 hK2 (by rw [hY]; exact Y2) (by rw [hX]; exact X2) (by rw [hX, hY]; omega) (by rw [hX, hY]; omega) N2 N1
    rw [bd_t (show f_K_fillCells q r (-1) (iI (lwE T U)) (iI (K : Int)) h = _ from a1), bd_t a3]
    rw [hX, hY, show ((Y : Int) + -1 * (X : Int)).toNat = Y - X by omega, ← exTU] at a4
    exact ⟨g2, rfl, a4, fin g1 g2 a2 a5⟩
  · rw [if_neg q4] at exTU
    rw [if_pos (by rw [if_neg q4]; rfl)]
    obtain ⟨g1, g2, a1, a2, a3, a4, a5⟩ := K_both (r := r) (q := q) (K := K) (t := T) (u := U) (s := T.1) (L := lwE T U) (g := -1) hr.1 hr.2 hq.1 hq.2 (Or.inr rfl) bT2 bU2 bL l1 l2 hK2 (by rw [hX]; exact X2) (by rw [hY]; exact Y2) (by rw [hX, hY]; omega) (by rw [hX, hY]; omega) N1 N2
    rw [bd_t (show f_K_fillCells r q (-1) (iI (lwE T U)) (iI (K : Int)) h = _ from a1), a2 29 (by omega), h3, bd_t a3]
    rw [hX, hY, show ((X : Int) + -1 * (Y : Int)).toNat = X - Y by omega, ← exTU] at a4
    exact ⟨g2, rfl, a4, fin g1 g2 a2 a5⟩
theorem nearT_f {a b : Int × Nat × Int} {n : Nat} (hn : 0 < n) (hb : 0 < b.2.1) (nb : nd b.2.1 ≤ n) (ea : -10000 ≤ a.2.2 ∧ a.2.2 ≤ 10000) (eb : -10000 ≤ b.2.2 ∧ b.2.2 ≤ 10000) : (nearT a b).1 = b.1 ∧ 0 < (nearT a b).2.1 ∧ nd (nearT a b).2.1 ≤ n ∧ -20000 ≤ (nearT a b).2.2 ∧ (nearT a b).2.2 ≤ 20000 := by
  unfold nearT
  split
  · refine ⟨rfl, Nat.one_pos, by show nd 1 ≤ n; rw [nd_1]; omega, ?_, ?_⟩
    · show -20000 ≤ a.2.2 - 31
      omega
    · show a.2.2 - 31 ≤ 20000
      omega
  · exact ⟨rfl, hb, nb, by omega, by omega⟩
theorem near_g {t u : Int × Nat × Int} (ht : 0 < t.2.1) (hu : 0 < u.2.1) : (nd (nearT u t).2.1 : Int) + (nearT u t).2.2 > (nearT t u).2.2 - 33 ∧ (nd (nearT t u).2.1 : Int) + (nearT t u).2.2 > (nearT u t).2.2 - 33 := by
  have pt := nd_pos ht
  have pu := nd_pos hu
  by_cases a : (nd u.2.1 : Int) + u.2.2 ≤ t.2.2 - 30
  · rw [show nearT t u = (u.1, 1, t.2.2 - 31) from if_pos a, show nearT u t = t from if_neg (by omega)]
    show (nd t.2.1 : Int) + t.2.2 > t.2.2 - 31 - 33 ∧ (nd 1 : Int) + (t.2.2 - 31) > t.2.2 - 33
    rw [nd_1]
    omega
  · rw [show nearT t u = u from if_neg a]
    by_cases b : (nd t.2.1 : Int) + t.2.2 ≤ u.2.2 - 30
    · rw [show nearT u t = (t.1, 1, u.2.2 - 31) from if_pos b]
      show (nd 1 : Int) + (u.2.2 - 31) > u.2.2 - 33 ∧ (nd u.2.1 : Int) + u.2.2 > u.2.2 - 31 - 33
      rw [nd_1]
      omega
    · rw [show nearT u t = t from if_neg b]
      omega
theorem C_mid {j : Nat} {t u : Int × Nat × Int} {su : Int} {h : Hp} (hj : j = 31 ∨ j = 42) (t1 : -1 ≤ t.1 ∧ t.1 ≤ 1) (u1 : -1 ≤ u.1 ∧ u.1 ≤ 1) (et : -10000 ≤ t.2.2 ∧ t.2.2 ≤ 10000) (eu : -10000 ≤ u.2.2 ∧ u.2.2 ≤ 10000) (nt : nd t.2.1 ≤ 20) (nu : nd u.2.1 ≤ 40) (ht : 0 < t.2.1) (hu : 0 < u.2.1) (Nt : isN h 29 t.1 t.2.1 t.2.2) (Nu : isN h j su u.2.1 u.2.2) : ∃ h', bd (f_K_nearTo j 29 h) (fun r56 h56 => chk (cNum r56) (bd (f_K_nearTo 29 j h56) (fun r64 h64 => chk (cNum r64) (bd (f_N_ahead r56 h64) (fun r86 h86 => bd (f_N_ahead r64 h86) (fun r91 h91 => sumTail 29 33 (iI u.1) (if (h64 r64 2) < (h64 r56 2) then (h64 r64 2) else (h64 r56 2)) (((if r86 < r91 then r91 else r86) - (if (h64 r64 2) < (h64 r56 2) then (h64 r64 2) else (h64 r56 2))) + 1) r56 r64 h91)))))) = some ((), h') ∧ isN h' 33 (exS (nearT u t) (nearT t u)).1 (exS (nearT u t) (nearT t u)).2.1 (exS (nearT u t) (nearT t u)).2.2 ∧ kS h h' := by
  have pt := nd_pos ht
  have pu := nd_pos hu
  obtain ⟨h1, r, σ1, e1, d1, N1, k1⟩ := K_near (i := j) (j := 29) (a := u) (b := t) (by omega) (by omega) ⟨by omega, by omega⟩ ⟨by omega, by omega⟩ (by omega) Nu Nt
  have Nt1 : isN h1 29 t.1 t.2.1 t.2.2 := isN_eq Nt (k1 29 (by omega) (by omega)) (k1 30 (by omega) (by omega))
  have Nu1 : isN h1 j su u.2.1 u.2.2 := isN_eq Nu (k1 j (by omega) (by omega)) (k1 (j + 1) (by omega) (by omega))
  obtain ⟨h2, q, σ2, e2, d2, N2, k2⟩ := K_near (i := 29) (j := j) (a := t) (b := u) (by omega) (by omega) ⟨by omega, by omega⟩ ⟨by omega, by omega⟩ (by omega) Nt1 Nu1
  have N1' : isN h2 r σ1 (nearT u t).2.1 (nearT u t).2.2 := by
    rcases d1 with ⟨a, b, c⟩ | ⟨a, b⟩
    · rw [a] at N1 ⊢
      exact isN_eq N1 (k2 29 (by omega) (by omega)) (k2 30 (by omega) (by omega))
    · rcases d2 with ⟨a2, b2, c2⟩ | ⟨a2, b2⟩
      · rw [b2]
        exact N1
      · omega
  have Nt2 : h2 29 3 = iI t.1 := by
    rw [k2 29 (by omega) (by omega)]
    exact Nt1.2.2
  have k12 : kp h h2 38 39 := kp_t k1 k2
  have hr : r = 29 ∨ r = 38 := by
    rcases d1 with ⟨a, b, c⟩ | ⟨a, b⟩
    · exact Or.inl a
    · exact Or.inr a
  have hq : q = j ∨ q = 38 := by
    rcases d2 with ⟨a, b, c⟩ | ⟨a, b⟩
    · exact Or.inl a
    · exact Or.inr a
  have near := near_g ht hu
  have ft := nearT_f (a := u) (b := t) (n := 20) (by omega) ht nt eu et
  have fu := nearT_f (a := t) (b := u) (n := 40) (by omega) hu nu et eu
  clear d1 d2 N1 k1 k2 Nt1 Nu1 Nt Nu pt pu
  rw [bd_t e1, chk_t (show cNum r by omega), bd_t e2, chk_t (show cNum q by omega), bd_t (N_ahead N1'), bd_t (N_ahead N2), N1'.2.1, N2.2.1]
  rw [← ft.1] at t1 Nt2
  rw [← fu.1] at u1 ⊢
  have ft := ft.2
  have fu := fu.2
  obtain ⟨T, hT⟩ : ∃ T, nearT u t = T := ⟨_, rfl⟩
  obtain ⟨U, hU⟩ : ∃ U, nearT t u = U := ⟨_, rfl⟩
  rw [hT, hU] at near
  rw [hT] at N1' ft t1 Nt2 ⊢
  rw [hU] at N2 fu u1 ⊢
  clear e1 e2 hT hU et eu nt nu ht hu
  obtain ⟨l1, l2, l3⟩ := lwE_p T U
  have pT := nd_pos ft.1
  have pU := nd_pos fu.1
  have eL : (if iI U.2.2 < iI T.2.2 then iI U.2.2 else iI T.2.2) = iI (lwE T U) := lw_iI ⟨by omega, by omega⟩ ⟨by omega, by omega⟩
  have eA : (if iI ((nd T.2.1 : Int) + T.2.2) < iI ((nd U.2.1 : Int) + U.2.2) then iI ((nd U.2.1 : Int) + U.2.2) else iI ((nd T.2.1 : Int) + T.2.2)) = iI (max ((nd T.2.1 : Int) + T.2.2) ((nd U.2.1 : Int) + U.2.2)) := mx_Int ⟨by omega, by omega⟩ ⟨by omega, by omega⟩
  obtain ⟨K, hK⟩ : ∃ K : Nat, max ((nd T.2.1 : Int) + T.2.2) ((nd U.2.1 : Int) + U.2.2) - lwE T U + 1 = (K : Int) := ⟨(max ((nd T.2.1 : Int) + T.2.2) ((nd U.2.1 : Int) + U.2.2) - lwE T U + 1).toNat, by omega⟩
  have hK2 : K ≤ 100 := by omega
  rw [eL, eA, iI_sub, i1, iI_add, hK]
  obtain ⟨h3, e3, N3, k3⟩ := C_tail (r := r) (q := q) (K := K) (T := T) (U := U) (by omega) (by omega) t1 u1 ft.1 fu.1 (by omega) (by omega) ⟨by omega, by omega⟩ ⟨by omega, by omega⟩ hK hK2 Nt2 N1' N2
  exact ⟨h3, e3, N3, fun y y1 y2 y3 y4 y5 => by rw [k3 y y1 y2 y3, k12 y y4 y5]⟩
theorem C_sum16 {j : Nat} {t u : Int × Nat × Int} {su : Int} {h : Hp} (hj : j = 31 ∨ j = 42) (ot : okN 10000 20 t) (ou : okN 10000 40 u) (hsu : su = 0 ↔ u.1 = 0) (hbu : bI su) (Nt : isN h 29 t.1 t.2.1 t.2.2) (Nu : isN h j su u.2.1 u.2.2) : ∃ h' w, f_K_sum_16 29 j 33 (iI u.1) h = some ((), h') ∧ isN h' 33 w.1 w.2.1 w.2.2 ∧ w.1 = (exS t u).1 ∧ (∀ n, 0 < n → n ≤ 20 → rN n w = rN n (exS t u)) ∧ kS h h' := by
  obtain ⟨t1, t2, t3, t4, t5, t6⟩ := ot
  obtain ⟨u1, u2, u3, u4, u5, u6⟩ := ou
  unfold isS at t1 u1
  unfold f_K_sum_16
  rw [Nu.2.2, Nt.2.2]
  by_cases q1 : u.2.1 = 0
  · have ex : exS t u = t := if_pos q1
    have s0 : su = 0 := hsu.mpr (u2.mpr q1)
    rw [if_pos (by rw [s0]; rfl), ex]
    obtain ⟨h1, e1, N1, k1⟩ := N_copy (i := 33) (j := 29) (by omega) (by omega) (by omega) (by show _ ≤ 100; omega) (fun z => ⟨t2.mpr z, t3 z⟩) Nt
    rw [bd_t e1]
    exact ⟨h1, t, rfl, N1, rfl, fun _ _ _ => rfl, fun y a b _ _ _ => k1 y a b⟩
  have s0 : su ≠ 0 := fun z => q1 (u2.mp (hsu.mp z))
  rw [if_neg (by rw [i0, iI_eq hbu ⟨by omega, by omega⟩]; exact s0)]
  by_cases q2 : t.2.1 = 0
  · have ex : exS t u = u := by
      unfold exS
      rw [if_neg q1, if_pos q2]
    rw [if_pos (by rw [t2.mpr q2]; rfl), ex]
    obtain ⟨h1, e1, N1, k1⟩ := N_copy (i := 33) (j := j) (by omega) (by omega) (by omega) (by show _ ≤ 100; omega) (fun z => absurd z q1) Nu
    rw [bd_t e1]
    refine ⟨_, u, rfl, ?_, rfl, fun _ _ _ => rfl, fun y a b _ _ _ => by rw [up2_ne _ _ _ a]; exact k1 y a b⟩
    exact ⟨isD_eq N1.1 (up2_k _ _ _ (by omega)) (up2_ne _ _ _ (by omega)), by rw [up2_k _ _ _ (by omega)]; exact N1.2.1, up2_s _ _ _ _⟩
  have s1 : t.1 ≠ 0 := fun z => q2 (t2.mp z)
  rw [if_neg (by rw [i0, iI_eq ⟨by omega, by omega⟩ ⟨by omega, by omega⟩]; exact s1)]
  obtain ⟨h1, e1, N1, k1⟩ := C_mid (j := j) (t := t) (u := u) hj (by omega) (by omega) ⟨by omega, by omega⟩ ⟨by omega, by omega⟩ t6 u6 (by omega) (by omega) Nt Nu
  obtain ⟨w1, w2⟩ := sum_near (t := t) (u := u) (by omega) (by omega)
  exact ⟨h1, _, e1, N1, w1, w2, k1⟩
/-- the second operand with the sign that it has in a sum or a difference -/
def ngT (fl : Nat) (u : Int × Nat × Int) : Int × Nat × Int := if fl = 0 then u else (-u.1, u.2.1, u.2.2)
theorem ngT_ok {b n fl : Nat} {u : Int × Nat × Int} (H : okN b n u) : okN b n (ngT fl u) := by
  unfold ngT
  split
  · exact H
  · obtain ⟨h1, h2, h3⟩ := H
    unfold isS at h1
    refine ⟨?_, ⟨fun z => h2.mp ?_, fun z => ?_⟩, h3⟩
    · show isS (-u.1)
      unfold isS
      omega
    · have z : -u.1 = 0 := z
      omega
    · have := h2.mpr z
      show -u.1 = 0
      omega
theorem C_sum {j fl : Nat} {t u : Int × Nat × Int} {h : Hp} (hj : j = 31 ∨ j = 42) (hf : fl ≤ 1) (ot : okN 10000 20 t) (ou : okN 10000 40 u) (Nt : isN h 29 t.1 t.2.1 t.2.2) (Nu : isN h j u.1 u.2.1 u.2.2) : ∃ h' w, f_K_sum 29 j (iI (fl : Int)) 33 h = some ((), h') ∧ isN h' 33 w.1 w.2.1 w.2.2 ∧ w.1 = (exS t (ngT fl u)).1 ∧ (∀ n, 0 < n → n ≤ 20 → rN n w = rN n (exS t (ngT fl u))) ∧ kS h h' := by
  have u1 := ou.1
  unfold isS at u1
  unfold f_K_sum
  rw [Nu.2.2]
  by_cases q : fl = 0
  · have e : ngT fl u = u := if_pos q
    rw [if_pos (by rw [q]; rfl), e]
    exact C_sum16 hj ot ou Iff.rfl ⟨by omega, by omega⟩ Nt Nu
  · have e : ngT fl u = (-u.1, u.2.1, u.2.2) := if_neg q
    rw [if_neg (by rw [i0, iI_eq ⟨by omega, by omega⟩ ⟨by omega, by omega⟩]; omega), iI_neg]
    have on := ngT_ok (fl := fl) ou
    rw [e] at on ⊢
    exact C_sum16 (u := (-u.1, u.2.1, u.2.2)) (su := u.1) hj ot on (by show u.1 = 0 ↔ -u.1 = 0; omega) ⟨by omega, by omega⟩ Nt Nu
