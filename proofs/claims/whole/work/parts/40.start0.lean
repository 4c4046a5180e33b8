def wsD (a : Nat) (u : ((Nat → Nat) × (Nat → ClassId))) : va_W := [(a, .inr (5, [.ref (u.1 1), .ref (u.1 3), .ref (u.1 4), .ref (u.1 6), .ref (u.1 7), .ref (u.1 8), .ref (u.1 20), .ref (u.1 22), .ref (u.1 24), .int 9, .int 0, .int 0])), ((u.1 1), .inr (0, [.ref (u.1 2), .int 0])), ((u.1 2), .inl ((u.2 2), 240, .inl (fun _ => 0))), ((u.1 3), .inl ((u.2 3), 10, .inr (.inr (.inr (.inr (va_up (va_up (va_up (va_up (va_up (va_up (va_up (va_up (va_up (va_up (fun _ => none) 0 (some (u.1 26))) 1 (some (u.1 28))) 2 (some (u.1 30))) 3 (some (u.1 32))) 4 (some (u.1 34))) 5 (some (u.1 36))) 6 (some (u.1 38))) 7 (some (u.1 40))) 8 (some (u.1 42))) 9 (some (u.1 44)))))))), ((u.1 4), .inr (0, [.ref (u.1 5), .int 0])), ((u.1 5), .inl ((u.2 5), 200, .inl (fun _ => 0))), ((u.1 6), .inr (2, [.int 0])), ((u.1 7), .inr (4, [])), ((u.1 8), .inr (3, [.ref (u.1 9), .ref (u.1 10), .ref (u.1 11), .ref (u.1 12), .ref (u.1 14), .ref (u.1 16), .ref (u.1 18)])), ((u.1 9), .inl ((u.2 9), 100, .inl (fun _ => 0))), ((u.1 10), .inl ((u.2 10), 100, .inl (fun _ => 0))), ((u.1 11), .inl ((u.2 11), 100, .inl (fun _ => 0))), ((u.1 12), .inr (1, [.ref (u.1 13), .int 0, .int 0, .int 0])), ((u.1 13), .inl ((u.2 13), 100, .inl (fun _ => 0))), ((u.1 14), .inr (1, [.ref (u.1 15), .int 0, .int 0, .int 0])), ((u.1 15), .inl ((u.2 15), 100, .inl (fun _ => 0))), ((u.1 16), .inr (1, [.ref (u.1 17), .int 0, .int 0, .int 0])), ((u.1 17), .inl ((u.2 17), 100, .inl (fun _ => 0))), ((u.1 18), .inr (1, [.ref (u.1 19), .int 0, .int 0, .int 0])), ((u.1 19), .inl ((u.2 19), 100, .inl (fun _ => 0))), ((u.1 20), .inr (1, [.ref (u.1 21), .int 0, .int 0, .int 0])), ((u.1 21), .inl ((u.2 21), 200, .inl (fun _ => 0))), ((u.1 22), .inr (1, [.ref (u.1 23), .int 0, .int 0, .int 0])), ((u.1 23), .inl ((u.2 23), 200, .inl (fun _ => 0))), ((u.1 24), .inr (1, [.ref (u.1 25), .int 0, .int 0, .int 0])), ((u.1 25), .inl ((u.2 25), 100, .inl (fun _ => 0))), ((u.1 26), .inr (0, [.ref (u.1 27), .int 0])), ((u.1 27), .inl ((u.2 27), 200, .inl (fun _ => 0))), ((u.1 28), .inr (0, [.ref (u.1 29), .int 0])), ((u.1 29), .inl ((u.2 29), 200, .inl (fun _ => 0))), ((u.1 30), .inr (0, [.ref (u.1 31), .int 0])), ((u.1 31), .inl ((u.2 31), 200, .inl (fun _ => 0))), ((u.1 32), .inr (0, [.ref (u.1 33), .int 0])), ((u.1 33), .inl ((u.2 33), 200, .inl (fun _ => 0))), ((u.1 34), .inr (0, [.ref (u.1 35), .int 0])), ((u.1 35), .inl ((u.2 35), 200, .inl (fun _ => 0))), ((u.1 36), .inr (0, [.ref (u.1 37), .int 0])), ((u.1 37), .inl ((u.2 37), 200, .inl (fun _ => 0))), ((u.1 38), .inr (0, [.ref (u.1 39), .int 0])), ((u.1 39), .inl ((u.2 39), 200, .inl (fun _ => 0))), ((u.1 40), .inr (0, [.ref (u.1 41), .int 0])), ((u.1 41), .inl ((u.2 41), 200, .inl (fun _ => 0))), ((u.1 42), .inr (0, [.ref (u.1 43), .int 0])), ((u.1 43), .inl ((u.2 43), 200, .inl (fun _ => 0))), ((u.1 44), .inr (0, [.ref (u.1 45), .int 0])), ((u.1 45), .inl ((u.2 45), 200, .inl (fun _ => 0)))]
def wsM (a : Nat) (u : ((Nat → Nat) × (Nat → ClassId))) : va_W := [(a, .inr (6, [.ref (u.1 1), .int 0, .ref (u.1 2), .ref (u.1 3), .int 9, .int 0, .int 0, .ref (u.1 4), .ref (u.1 5), .ref (u.1 6), .ref (u.1 7), .ref (u.1 8), .ref (u.1 9), .int 0])), ((u.1 1), .inl ((u.2 1), 240, .inl (fun _ => 0))), ((u.1 2), .inl ((u.2 2), 2000, .inl (fun _ => 0))), ((u.1 3), .inl ((u.2 3), 10, .inl (fun _ => 0))), ((u.1 4), .inl ((u.2 4), 13000, .inl (fun _ => 0))), ((u.1 5), .inl ((u.2 5), 5, .inl (fun _ => 0))), ((u.1 6), .inl ((u.2 6), 5, .inl (fun _ => 0))), ((u.1 7), .inl ((u.2 7), 5, .inl (fun _ => 0))), ((u.1 8), .inl ((u.2 8), 300, .inl (fun _ => 0))), ((u.1 9), .inl ((u.2 9), 1600, .inl (fun _ => 0)))]
def tyD9 (u : ((Nat → Nat) × (Nat → ClassId))) : List (ClassId × FieldType) := [((u.2 2), .byte), ((u.2 3), .object "NumberDesk$Line"), ((u.2 5), .byte), ((u.2 9), .int), ((u.2 10), .int), ((u.2 11), .int), ((u.2 13), .int), ((u.2 15), .int), ((u.2 17), .int), ((u.2 19), .int), ((u.2 21), .int), ((u.2 23), .int), ((u.2 25), .int), ((u.2 27), .byte), ((u.2 29), .byte), ((u.2 31), .byte), ((u.2 33), .byte), ((u.2 35), .byte), ((u.2 37), .byte), ((u.2 39), .byte), ((u.2 41), .byte), ((u.2 43), .byte), ((u.2 45), .byte)]
def tyM9 (u : ((Nat → Nat) × (Nat → ClassId))) : List (ClassId × FieldType) := [((u.2 1), .int), ((u.2 2), .int), ((u.2 3), .int), ((u.2 4), .int), ((u.2 5), .int), ((u.2 6), .int), ((u.2 7), .int), ((u.2 8), .int), ((u.2 9), .int)]
/-- the ints at the start -/
def hp0 : Hp := fun i => match i with
  | 0 => (fun k => if k = 9 then 9 else 0)
  | 46 => (fun k => if k = 4 then 9 else 0)
  | _ => (fun _ => 0)
def pos9 : List Nat := [0, 1, 2, 3, 26, 27, 28, 29, 30, 31, 32, 33, 34, 35, 36, 37, 38, 39, 40, 41, 42, 43, 44, 45, 4, 5, 6, 7, 8, 20, 21, 22, 23, 24, 25, 9, 10, 11, 12, 13, 14, 15, 16, 17, 18, 19, 46, 47, 48, 49, 50, 51, 52, 53, 54, 55]
def ad9 (qx qm : Nat) (u v : ((Nat → Nat) × (Nat → ClassId))) : Nat → Nat := fun i => match i with
  | 0 => qx
  | 1 => (u.1 1)
  | 2 => (u.1 2)
  | 3 => (u.1 3)
  | 4 => (u.1 26)
  | 5 => (u.1 27)
  | 6 => (u.1 28)
  | 7 => (u.1 29)
  | 8 => (u.1 30)
  | 9 => (u.1 31)
  | 10 => (u.1 32)
  | 11 => (u.1 33)
  | 12 => (u.1 34)
  | 13 => (u.1 35)
  | 14 => (u.1 36)
  | 15 => (u.1 37)
  | 16 => (u.1 38)
  | 17 => (u.1 39)
  | 18 => (u.1 40)
  | 19 => (u.1 41)
  | 20 => (u.1 42)
  | 21 => (u.1 43)
  | 22 => (u.1 44)
  | 23 => (u.1 45)
  | 24 => (u.1 4)
  | 25 => (u.1 5)
  | 26 => (u.1 6)
  | 27 => (u.1 7)
  | 28 => (u.1 8)
  | 29 => (u.1 20)
  | 30 => (u.1 21)
  | 31 => (u.1 22)
  | 32 => (u.1 23)
  | 33 => (u.1 24)
  | 34 => (u.1 25)
  | 35 => (u.1 9)
  | 36 => (u.1 10)
  | 37 => (u.1 11)
  | 38 => (u.1 12)
  | 39 => (u.1 13)
  | 40 => (u.1 14)
  | 41 => (u.1 15)
  | 42 => (u.1 16)
  | 43 => (u.1 17)
  | 44 => (u.1 18)
  | 45 => (u.1 19)
  | 46 => qm
  | 47 => (v.1 1)
  | 48 => (v.1 2)
  | 49 => (v.1 3)
  | 50 => (v.1 4)
  | 51 => (v.1 5)
  | 52 => (v.1 6)
  | 53 => (v.1 7)
  | 54 => (v.1 8)
  | _ => (v.1 9)
def gg9 (D : va_G) (qx qm : Nat) (u v : ((Nat → Nat) × (Nat → ClassId))) : cGt := (D, ad9 qx qm u v, (u.2 2), (u.2 9), (u.2 3))
theorem reg9 (cA : ClassId) (f g : Nat → Option Nat) (h : ∀ j, j < 10 → f j = g j) : vp_cell cA (10, .inr (.inr (.inr (.inr f)))) = vp_cell cA (10, .inr (.inr (.inr (.inr g)))) := by
  rw [vp_cell_q, vp_cell_q]
  unfold arrV
  congr 1
  apply Array.ext
  · simp
  · intro i h1 h2
    have : i < 10 := by simpa using h1
    simp [h i this]
theorem pos9_inj : ∀ i, i < 56 → ∀ j, j < 56 → pos9.getD i 0 = pos9.getD j 0 → i = j := by decide +kernel
set_option maxHeartbeats 8000000 in
set_option maxRecDepth 100000 in
theorem pl9 (D : va_G) (qx qm : Nat) (u v : ((Nat → Nat) × (Nat → ClassId))) : ∀ k, k < 56 → k ≠ 3 → ∃ e : va_E, (wsD qx u ++ wsM qm v)[pos9.getD k 0]? = some (ad9 qx qm u v k, e) := by
  intro k hk h3
  rcases (show k = 0 ∨ k = 1 ∨ k = 2 ∨ k = 3 ∨ k = 4 ∨ k = 5 ∨ k = 6 ∨ k = 7 ∨ k = 8 ∨ k = 9 ∨ k = 10 ∨ k = 11 ∨ k = 12 ∨ k = 13 ∨ k = 14 ∨ k = 15 ∨ k = 16 ∨ k = 17 ∨ k = 18 ∨ k = 19 ∨ k = 20 ∨ k = 21 ∨ k = 22 ∨ k = 23 ∨ k = 24 ∨ k = 25 ∨ k = 26 ∨ k = 27 ∨ k = 28 ∨ k = 29 ∨ k = 30 ∨ k = 31 ∨ k = 32 ∨ k = 33 ∨ k = 34 ∨ k = 35 ∨ k = 36 ∨ k = 37 ∨ k = 38 ∨ k = 39 ∨ k = 40 ∨ k = 41 ∨ k = 42 ∨ k = 43 ∨ k = 44 ∨ k = 45 ∨ k = 46 ∨ k = 47 ∨ k = 48 ∨ k = 49 ∨ k = 50 ∨ k = 51 ∨ k = 52 ∨ k = 53 ∨ k = 54 ∨ k = 55 by omega) with rfl | rfl | rfl | rfl | rfl | rfl | rfl | rfl | rfl | rfl | rfl | rfl | rfl | rfl | rfl | rfl | rfl | rfl | rfl | rfl | rfl | rfl | rfl | rfl | rfl | rfl | rfl | rfl | rfl | rfl | rfl | rfl | rfl | rfl | rfl | rfl | rfl | rfl | rfl | rfl | rfl | rfl | rfl | rfl | rfl | rfl | rfl | rfl | rfl | rfl | rfl | rfl | rfl | rfl | rfl | rfl
  · exact ⟨_, rfl⟩
  · exact ⟨_, rfl⟩
  · exact ⟨_, rfl⟩
  · exact absurd rfl h3
  · exact ⟨_, rfl⟩
  · exact ⟨_, rfl⟩
  · exact ⟨_, rfl⟩
  · exact ⟨_, rfl⟩
  · exact ⟨_, rfl⟩
  · exact ⟨_, rfl⟩
  · exact ⟨_, rfl⟩
  · exact ⟨_, rfl⟩
  · exact ⟨_, rfl⟩
  · exact ⟨_, rfl⟩
  · exact ⟨_, rfl⟩
  · exact ⟨_, rfl⟩
  · exact ⟨_, rfl⟩
  · exact ⟨_, rfl⟩
  · exact ⟨_, rfl⟩
  · exact ⟨_, rfl⟩
  · exact ⟨_, rfl⟩
  · exact ⟨_, rfl⟩
  · exact ⟨_, rfl⟩
  · exact ⟨_, rfl⟩
  · exact ⟨_, rfl⟩
  · exact ⟨_, rfl⟩
  · exact ⟨_, rfl⟩
  · exact ⟨_, rfl⟩
  · exact ⟨_, rfl⟩
  · exact ⟨_, rfl⟩
  · exact ⟨_, rfl⟩
  · exact ⟨_, rfl⟩
  · exact ⟨_, rfl⟩
  · exact ⟨_, rfl⟩
  · exact ⟨_, rfl⟩
  · exact ⟨_, rfl⟩
  · exact ⟨_, rfl⟩
  · exact ⟨_, rfl⟩
  · exact ⟨_, rfl⟩
  · exact ⟨_, rfl⟩
  · exact ⟨_, rfl⟩
  · exact ⟨_, rfl⟩
  · exact ⟨_, rfl⟩
  · exact ⟨_, rfl⟩
  · exact ⟨_, rfl⟩
  · exact ⟨_, rfl⟩
  · exact ⟨_, rfl⟩
  · exact ⟨_, rfl⟩
  · exact ⟨_, rfl⟩
  · exact ⟨_, rfl⟩
  · exact ⟨_, rfl⟩
  · exact ⟨_, rfl⟩
  · exact ⟨_, rfl⟩
  · exact ⟨_, rfl⟩
  · exact ⟨_, rfl⟩
  · exact ⟨_, rfl⟩
set_option maxHeartbeats 8000000 in
set_option maxRecDepth 100000 in
theorem pw9 {D : va_G} {qx qm : Nat} {u v : ((Nat → Nat) × (Nat → ClassId))} {s : State} {H : Heap} (hK : va_K D classes (tyD9 u ++ tyM9 v) s) (hP : va_P D classes (wsD qx u ++ wsM qm v) H) : wd_P (vC (gg9 D qx qm u v)) hp0 H ∧ va_K D classes (wd_ty (vC (gg9 D qx qm u v))) s := by
  have E5 : (u.2 27) = (u.2 2) := Option.some.inj ((hK.2 13 _ rfl).2.symm.trans (hK.2 0 _ rfl).2)
  have E7 : (u.2 29) = (u.2 2) := Option.some.inj ((hK.2 14 _ rfl).2.symm.trans (hK.2 0 _ rfl).2)
  have E9 : (u.2 31) = (u.2 2) := Option.some.inj ((hK.2 15 _ rfl).2.symm.trans (hK.2 0 _ rfl).2)
  have E11 : (u.2 33) = (u.2 2) := Option.some.inj ((hK.2 16 _ rfl).2.symm.trans (hK.2 0 _ rfl).2)
  have E13 : (u.2 35) = (u.2 2) := Option.some.inj ((hK.2 17 _ rfl).2.symm.trans (hK.2 0 _ rfl).2)
  have E15 : (u.2 37) = (u.2 2) := Option.some.inj ((hK.2 18 _ rfl).2.symm.trans (hK.2 0 _ rfl).2)
  have E17 : (u.2 39) = (u.2 2) := Option.some.inj ((hK.2 19 _ rfl).2.symm.trans (hK.2 0 _ rfl).2)
  have E19 : (u.2 41) = (u.2 2) := Option.some.inj ((hK.2 20 _ rfl).2.symm.trans (hK.2 0 _ rfl).2)
  have E21 : (u.2 43) = (u.2 2) := Option.some.inj ((hK.2 21 _ rfl).2.symm.trans (hK.2 0 _ rfl).2)
  have E23 : (u.2 45) = (u.2 2) := Option.some.inj ((hK.2 22 _ rfl).2.symm.trans (hK.2 0 _ rfl).2)
  have E25 : (u.2 5) = (u.2 2) := Option.some.inj ((hK.2 2 _ rfl).2.symm.trans (hK.2 0 _ rfl).2)
  have E30 : (u.2 21) = (u.2 9) := Option.some.inj ((hK.2 10 _ rfl).2.symm.trans (hK.2 3 _ rfl).2)
  have E32 : (u.2 23) = (u.2 9) := Option.some.inj ((hK.2 11 _ rfl).2.symm.trans (hK.2 3 _ rfl).2)
  have E34 : (u.2 25) = (u.2 9) := Option.some.inj ((hK.2 12 _ rfl).2.symm.trans (hK.2 3 _ rfl).2)
  have E36 : (u.2 10) = (u.2 9) := Option.some.inj ((hK.2 4 _ rfl).2.symm.trans (hK.2 3 _ rfl).2)
  have E37 : (u.2 11) = (u.2 9) := Option.some.inj ((hK.2 5 _ rfl).2.symm.trans (hK.2 3 _ rfl).2)
  have E39 : (u.2 13) = (u.2 9) := Option.some.inj ((hK.2 6 _ rfl).2.symm.trans (hK.2 3 _ rfl).2)
  have E41 : (u.2 15) = (u.2 9) := Option.some.inj ((hK.2 7 _ rfl).2.symm.trans (hK.2 3 _ rfl).2)
  have E43 : (u.2 17) = (u.2 9) := Option.some.inj ((hK.2 8 _ rfl).2.symm.trans (hK.2 3 _ rfl).2)
  have E45 : (u.2 19) = (u.2 9) := Option.some.inj ((hK.2 9 _ rfl).2.symm.trans (hK.2 3 _ rfl).2)
  have E47 : (v.2 1) = (u.2 9) := Option.some.inj ((hK.2 23 _ rfl).2.symm.trans (hK.2 3 _ rfl).2)
  have E48 : (v.2 2) = (u.2 9) := Option.some.inj ((hK.2 24 _ rfl).2.symm.trans (hK.2 3 _ rfl).2)
  have E49 : (v.2 3) = (u.2 9) := Option.some.inj ((hK.2 25 _ rfl).2.symm.trans (hK.2 3 _ rfl).2)
  have E50 : (v.2 4) = (u.2 9) := Option.some.inj ((hK.2 26 _ rfl).2.symm.trans (hK.2 3 _ rfl).2)
  have E51 : (v.2 5) = (u.2 9) := Option.some.inj ((hK.2 27 _ rfl).2.symm.trans (hK.2 3 _ rfl).2)
  have E52 : (v.2 6) = (u.2 9) := Option.some.inj ((hK.2 28 _ rfl).2.symm.trans (hK.2 3 _ rfl).2)
  have E53 : (v.2 7) = (u.2 9) := Option.some.inj ((hK.2 29 _ rfl).2.symm.trans (hK.2 3 _ rfl).2)
  have E54 : (v.2 8) = (u.2 9) := Option.some.inj ((hK.2 30 _ rfl).2.symm.trans (hK.2 3 _ rfl).2)
  have E55 : (v.2 9) = (u.2 9) := Option.some.inj ((hK.2 31 _ rfl).2.symm.trans (hK.2 3 _ rfl).2)
  refine ⟨fun k q hq => ?_, hK.1, fun k q hq => ?_⟩
  · obtain ⟨hk, rfl⟩ := wd_get hq
    have hk : k < 56 := hk
    clear hq
    rcases (show k = 0 ∨ k = 1 ∨ k = 2 ∨ k = 3 ∨ k = 4 ∨ k = 5 ∨ k = 6 ∨ k = 7 ∨ k = 8 ∨ k = 9 ∨ k = 10 ∨ k = 11 ∨ k = 12 ∨ k = 13 ∨ k = 14 ∨ k = 15 ∨ k = 16 ∨ k = 17 ∨ k = 18 ∨ k = 19 ∨ k = 20 ∨ k = 21 ∨ k = 22 ∨ k = 23 ∨ k = 24 ∨ k = 25 ∨ k = 26 ∨ k = 27 ∨ k = 28 ∨ k = 29 ∨ k = 30 ∨ k = 31 ∨ k = 32 ∨ k = 33 ∨ k = 34 ∨ k = 35 ∨ k = 36 ∨ k = 37 ∨ k = 38 ∨ k = 39 ∨ k = 40 ∨ k = 41 ∨ k = 42 ∨ k = 43 ∨ k = 44 ∨ k = 45 ∨ k = 46 ∨ k = 47 ∨ k = 48 ∨ k = 49 ∨ k = 50 ∨ k = 51 ∨ k = 52 ∨ k = 53 ∨ k = 54 ∨ k = 55 by omega) with rfl | rfl | rfl | rfl | rfl | rfl | rfl | rfl | rfl | rfl | rfl | rfl | rfl | rfl | rfl | rfl | rfl | rfl | rfl | rfl | rfl | rfl | rfl | rfl | rfl | rfl | rfl | rfl | rfl | rfl | rfl | rfl | rfl | rfl | rfl | rfl | rfl | rfl | rfl | rfl | rfl | rfl | rfl | rfl | rfl | rfl | rfl | rfl | rfl | rfl | rfl | rfl | rfl | rfl | rfl | rfl
    · exact hP 0 _ rfl
    · exact hP 1 _ rfl
    · exact hP 2 _ rfl
    · have z := hP 3 _ rfl
      refine z.trans (congrArg some (reg9 _ _ _ ?_))
      intro j hj
      rcases (show j = 0 ∨ j = 1 ∨ j = 2 ∨ j = 3 ∨ j = 4 ∨ j = 5 ∨ j = 6 ∨ j = 7 ∨ j = 8 ∨ j = 9 by omega) with rfl | rfl | rfl | rfl | rfl | rfl | rfl | rfl | rfl | rfl <;> rfl
    · exact hP 26 _ rfl
    · have z := hP 27 _ rfl
      rw [E5] at z
      exact z
    · exact hP 28 _ rfl
    · have z := hP 29 _ rfl
      rw [E7] at z
      exact z
    · exact hP 30 _ rfl
    · have z := hP 31 _ rfl
      rw [E9] at z
      exact z
    · exact hP 32 _ rfl
    · have z := hP 33 _ rfl
      rw [E11] at z
      exact z
    · exact hP 34 _ rfl
    · have z := hP 35 _ rfl
      rw [E13] at z
      exact z
    · exact hP 36 _ rfl
    · have z := hP 37 _ rfl
      rw [E15] at z
      exact z
    · exact hP 38 _ rfl
    · have z := hP 39 _ rfl
      rw [E17] at z
      exact z
    · exact hP 40 _ rfl
    · have z := hP 41 _ rfl
      rw [E19] at z
      exact z
    · exact hP 42 _ rfl
    · have z := hP 43 _ rfl
      rw [E21] at z
      exact z
    · exact hP 44 _ rfl
    · have z := hP 45 _ rfl
      rw [E23] at z
      exact z
    · exact hP 4 _ rfl
    · have z := hP 5 _ rfl
      rw [E25] at z
      exact z
    · exact hP 6 _ rfl
    · exact hP 7 _ rfl
    · exact hP 8 _ rfl
    · exact hP 20 _ rfl
    · have z := hP 21 _ rfl
      rw [E30] at z
      exact z
    · exact hP 22 _ rfl
    · have z := hP 23 _ rfl
      rw [E32] at z
      exact z
    · exact hP 24 _ rfl
    · have z := hP 25 _ rfl
      rw [E34] at z
      exact z
    · exact hP 9 _ rfl
    · have z := hP 10 _ rfl
      rw [E36] at z
      exact z
    · have z := hP 11 _ rfl
      rw [E37] at z
      exact z
    · exact hP 12 _ rfl
    · have z := hP 13 _ rfl
      rw [E39] at z
      exact z
    · exact hP 14 _ rfl
    · have z := hP 15 _ rfl
      rw [E41] at z
      exact z
    · exact hP 16 _ rfl
    · have z := hP 17 _ rfl
      rw [E43] at z
      exact z
    · exact hP 18 _ rfl
    · have z := hP 19 _ rfl
      rw [E45] at z
      exact z
    · exact hP 46 _ rfl
    · have z := hP 47 _ rfl
      rw [E47] at z
      exact z
    · have z := hP 48 _ rfl
      rw [E48] at z
      exact z
    · have z := hP 49 _ rfl
      rw [E49] at z
      exact z
    · have z := hP 50 _ rfl
      rw [E50] at z
      exact z
    · have z := hP 51 _ rfl
      rw [E51] at z
      exact z
    · have z := hP 52 _ rfl
      rw [E52] at z
      exact z
    · have z := hP 53 _ rfl
      rw [E53] at z
      exact z
    · have z := hP 54 _ rfl
      rw [E54] at z
      exact z
    · have z := hP 55 _ rfl
      rw [E55] at z
      exact z
  · rcases k with _ | _ | _ | k
    · cases hq
      exact hK.2 3 _ rfl
    · cases hq
      exact hK.2 0 _ rfl
    · cases hq
      exact hK.2 1 _ rfl
    · exact absurd (show (none : Option (ClassId × FieldType)) = some q from hq) (fun z => by cases z)
