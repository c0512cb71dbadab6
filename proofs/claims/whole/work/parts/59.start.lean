/-! THE WORLD AT THE START (written by genstart.py) -/
def sg0 : Sg := fun a j => if a = 86 then (wayF 25 j).toInt else if a = 46 then (if j = 0 then 47 else 0) else if a % 9 = 0 ∧ a < 45 then (if j = 9 then 1 else if j = 11 then 255 else 0) else 0
def WL (cI cQ : ClassId) (h6 : Nat) (β : Nat → Nat) (h7 : Nat) (γ : Nat → Nat) : va_W := R_6 cI cQ h6 β ++ R_7 cI cQ h7 γ
def WLf (cI cQ : ClassId) (h6 : Nat) (β : Nat → Nat) (h7 : Nat) (γ : Nat → Nat) : va_W := [(h6, .inr (6, [.ref (β 0), .ref (β 9), .ref (β 18), .ref (β 27), .ref (β 29), .ref (β 36), .ref (β 59), .int 0])), (β 59, .inl (cQ, 8, .inr (.inr (.inr (.inr (va_up (va_up (va_up (va_up (va_up (va_up (va_up (va_up (fun _ => none) 0 (some (β 60))) 1 (some (β 63))) 2 (some (β 66))) 3 (some (β 69))) 4 (some (β 72))) 5 (some (β 75))) 6 (some (β 78))) 7 (some (β 81)))))))), (β 0, .inr (3, [.int 0, .ref (β 1), .ref (β 2), .int 0, .ref (β 3), .ref (β 4), .ref (β 5), .ref (β 6), .ref (β 7), .int 1, .int 0, .int 255, .ref (β 8)])), (β 1, .inl (cI, 5, .inl (fun _ => 0))), (β 2, .inl (cI, 25, .inl (fun _ => 0))), (β 3, .inl (cI, 8, .inl (fun _ => 0))), (β 4, .inl (cI, 8, .inl (fun _ => 0))), (β 5, .inl (cI, 8, .inl (fun _ => 0))), (β 6, .inl (cI, 40, .inl (fun _ => 0))), (β 7, .inl (cI, 8, .inl (fun _ => 0))), (β 8, .inl (cI, 5, .inl (fun _ => 0))), (β 9, .inr (3, [.int 0, .ref (β 10), .ref (β 11), .int 0, .ref (β 12), .ref (β 13), .ref (β 14), .ref (β 15), .ref (β 16), .int 1, .int 0, .int 255, .ref (β 17)])), (β 10, .inl (cI, 5, .inl (fun _ => 0))), (β 11, .inl (cI, 25, .inl (fun _ => 0))), (β 12, .inl (cI, 8, .inl (fun _ => 0))), (β 13, .inl (cI, 8, .inl (fun _ => 0))), (β 14, .inl (cI, 8, .inl (fun _ => 0))), (β 15, .inl (cI, 40, .inl (fun _ => 0))), (β 16, .inl (cI, 8, .inl (fun _ => 0))), (β 17, .inl (cI, 5, .inl (fun _ => 0))), (β 18, .inr (3, [.int 0, .ref (β 19), .ref (β 20), .int 0, .ref (β 21), .ref (β 22), .ref (β 23), .ref (β 24), .ref (β 25), .int 1, .int 0, .int 255, .ref (β 26)])), (β 19, .inl (cI, 5, .inl (fun _ => 0))), (β 20, .inl (cI, 25, .inl (fun _ => 0))), (β 21, .inl (cI, 8, .inl (fun _ => 0))), (β 22, .inl (cI, 8, .inl (fun _ => 0))), (β 23, .inl (cI, 8, .inl (fun _ => 0))), (β 24, .inl (cI, 40, .inl (fun _ => 0))), (β 25, .inl (cI, 8, .inl (fun _ => 0))), (β 26, .inl (cI, 5, .inl (fun _ => 0))), (β 27, .inr (4, [.ref (β 28), .int 0, .int 0, .int 0, .int 0, .int 0, .int 0, .int 0, .int 0])), (β 28, .inl (cI, 0, .inl (fun _ => 0))), (β 29, .inr (1, [.ref (β 30), .ref (β 31), .ref (β 32), .ref (β 33), .ref (β 34), .ref (β 35), .int 0])), (β 30, .inl (cI, 8, .inl (fun _ => 0))), (β 31, .inl (cI, 8, .inl (fun _ => 0))), (β 32, .inl (cI, 5, .inl (fun _ => 0))), (β 33, .inl (cI, 8, .inl (fun _ => 0))), (β 34, .inl (cI, 40, .inl (fun _ => 0))), (β 35, .inl (cI, 9, .inl (fun _ => 0))), (β 36, .inr (5, [.ref (β 37), .ref (β 46), .ref (β 55), .ref (β 56), .ref (β 57), .ref (β 58), .int 0])), (β 37, .inr (3, [.int 0, .ref (β 38), .ref (β 39), .int 0, .ref (β 40), .ref (β 41), .ref (β 42), .ref (β 43), .ref (β 44), .int 1, .int 0, .int 255, .ref (β 45)])), (β 38, .inl (cI, 5, .inl (fun _ => 0))), (β 39, .inl (cI, 25, .inl (fun _ => 0))), (β 40, .inl (cI, 8, .inl (fun _ => 0))), (β 41, .inl (cI, 8, .inl (fun _ => 0))), (β 42, .inl (cI, 8, .inl (fun _ => 0))), (β 43, .inl (cI, 40, .inl (fun _ => 0))), (β 44, .inl (cI, 8, .inl (fun _ => 0))), (β 45, .inl (cI, 5, .inl (fun _ => 0))), (β 46, .inr (3, [.int 0, .ref (β 47), .ref (β 48), .int 0, .ref (β 49), .ref (β 50), .ref (β 51), .ref (β 52), .ref (β 53), .int 1, .int 0, .int 255, .ref (β 54)])), (β 47, .inl (cI, 5, .inl (fun _ => 0))), (β 48, .inl (cI, 25, .inl (fun _ => 0))), (β 49, .inl (cI, 8, .inl (fun _ => 0))), (β 50, .inl (cI, 8, .inl (fun _ => 0))), (β 51, .inl (cI, 8, .inl (fun _ => 0))), (β 52, .inl (cI, 40, .inl (fun _ => 0))), (β 53, .inl (cI, 8, .inl (fun _ => 0))), (β 54, .inl (cI, 5, .inl (fun _ => 0))), (β 55, .inr (0, [.int 0, .int 0, .int 0, .int 0])), (β 56, .inl (cI, 8, .inl (fun _ => 0))), (β 57, .inl (cI, 3, .inl (fun _ => 0))), (β 58, .inl (cI, 8, .inl (fun _ => 0))), (β 60, .inr (2, [.int 0, .ref (β 61), .int 0, .int 0, .ref (β 62)])), (β 61, .inr (0, [.int 0, .int 0, .int 0, .int 0])), (β 62, .inl (cI, 100, .inl (fun _ => 0))), (β 63, .inr (2, [.int 0, .ref (β 64), .int 0, .int 0, .ref (β 65)])), (β 64, .inr (0, [.int 0, .int 0, .int 0, .int 0])), (β 65, .inl (cI, 100, .inl (fun _ => 0))), (β 66, .inr (2, [.int 0, .ref (β 67), .int 0, .int 0, .ref (β 68)])), (β 67, .inr (0, [.int 0, .int 0, .int 0, .int 0])), (β 68, .inl (cI, 100, .inl (fun _ => 0))), (β 69, .inr (2, [.int 0, .ref (β 70), .int 0, .int 0, .ref (β 71)])), (β 70, .inr (0, [.int 0, .int 0, .int 0, .int 0])), (β 71, .inl (cI, 100, .inl (fun _ => 0))), (β 72, .inr (2, [.int 0, .ref (β 73), .int 0, .int 0, .ref (β 74)])), (β 73, .inr (0, [.int 0, .int 0, .int 0, .int 0])), (β 74, .inl (cI, 100, .inl (fun _ => 0))), (β 75, .inr (2, [.int 0, .ref (β 76), .int 0, .int 0, .ref (β 77)])), (β 76, .inr (0, [.int 0, .int 0, .int 0, .int 0])), (β 77, .inl (cI, 100, .inl (fun _ => 0))), (β 78, .inr (2, [.int 0, .ref (β 79), .int 0, .int 0, .ref (β 80)])), (β 79, .inr (0, [.int 0, .int 0, .int 0, .int 0])), (β 80, .inl (cI, 100, .inl (fun _ => 0))), (β 81, .inr (2, [.int 0, .ref (β 82), .int 0, .int 0, .ref (β 83)])), (β 82, .inr (0, [.int 0, .int 0, .int 0, .int 0])), (β 83, .inl (cI, 100, .inl (fun _ => 0))), (h7, .inr (7, [.ref (γ 0), .ref (γ 1), .ref (γ 2), .ref (γ 3), .ref (γ 4), .ref (γ 5), .ref (γ 6), .ref (γ 7), .ref (γ 8), .ref (γ 9), .ref (γ 10), .ref (γ 11), .ref (γ 12), .ref (γ 13), .int 0, .int 0, .int 0, .int 0, .int 0, .int 0, .int 0, .int 0, .ref (γ 14), .int 0, .int 0, .int 0, .int 0, .ref (γ 15), .int 0, .int 0, .ref (γ 16), .ref (γ 17), .ref (γ 18), .ref (γ 19), .ref (γ 20), .int 0, .int 0, .ref (γ 21), .int 0, .int 0])), (γ 0, .inl (cI, 107, .inl (wayF 25))), (γ 21, .inl (cI, 8, .inl (fun _ => 0))), (γ 20, .inl (cI, 321, .inl (fun _ => 0))), (γ 19, .inl (cI, 8, .inl (fun _ => 0))), (γ 18, .inl (cI, 3, .inl (fun _ => 0))), (γ 17, .inl (cI, 3, .inl (fun _ => 0))), (γ 16, .inl (cI, 8, .inl (fun _ => 0))), (γ 15, .inl (cI, 8, .inl (fun _ => 0))), (γ 14, .inl (cI, 3, .inl (fun _ => 0))), (γ 13, .inl (cI, 8, .inl (fun _ => 0))), (γ 12, .inl (cI, 8, .inl (fun _ => 0))), (γ 11, .inl (cI, 8, .inl (fun _ => 0))), (γ 10, .inl (cI, 8, .inl (fun _ => 0))), (γ 9, .inl (cI, 800, .inl (fun _ => 0))), (γ 8, .inl (cI, 8, .inl (fun _ => 0))), (γ 7, .inl (cI, 8, .inl (fun _ => 0))), (γ 6, .inl (cI, 8, .inl (fun _ => 0))), (γ 5, .inl (cI, 107, .inl (fun _ => 0))), (γ 4, .inl (cI, 107, .inl (fun _ => 0))), (γ 3, .inl (cI, 107, .inl (fun _ => 0))), (γ 2, .inl (cI, 107, .inl (fun _ => 0))), (γ 1, .inl (cI, 107, .inl (fun _ => 0)))]
set_option maxRecDepth 100000 in
theorem WL_eq (cI cQ : ClassId) (h6 : Nat) (β : Nat → Nat) (h7 : Nat) (γ : Nat → Nat) : WL cI cQ h6 β h7 γ = WLf cI cQ h6 β h7 γ := by
  simp only [WL, R_6, R_7, R_0, R_1, R_2, R_3, R_4, R_5, List.cons_append, List.nil_append, List.append_assoc, Nat.reduceAdd, WLf]
def al0 (h6 : Nat) (β : Nat → Nat) (h7 : Nat) (γ : Nat → Nat) : Nat → Nat := fun a => ([β 0, β 1, β 2, β 3, β 4, β 5, β 6, β 7, β 8, β 9, β 10, β 11, β 12, β 13, β 14, β 15, β 16, β 17, β 18, β 19, β 20, β 21, β 22, β 23, β 24, β 25, β 26, β 37, β 38, β 39, β 40, β 41, β 42, β 43, β 44, β 45, β 46, β 47, β 48, β 49, β 50, β 51, β 52, β 53, β 54, h6, β 27, β 28, β 29, β 30, β 31, β 32, β 33, β 34, β 35, β 36, β 55, β 56, β 57, β 58, β 59, β 60, β 61, β 62, β 63, β 64, β 65, β 66, β 67, β 68, β 69, β 70, β 71, β 72, β 73, β 74, β 75, β 76, β 77, β 78, β 79, β 80, β 81, β 82, β 83, h7, γ 0, γ 1, γ 2, γ 3, γ 4, γ 5, γ 6, γ 7, γ 8, γ 9, γ 10, γ 11, γ 12, γ 13, γ 14, γ 15, γ 16, γ 17, γ 18, γ 19, γ 20, γ 21] : List Nat).getD a 0
def gil : List Nat := [2, 3, 4, 5, 6, 7, 8, 9, 10, 11, 12, 13, 14, 15, 16, 17, 18, 19, 20, 21, 22, 23, 24, 25, 26, 27, 28, 39, 40, 41, 42, 43, 44, 45, 46, 47, 48, 49, 50, 51, 52, 53, 54, 55, 56, 0, 29, 30, 31, 32, 33, 34, 35, 36, 37, 38, 57, 58, 59, 60, 1, 61, 62, 63, 64, 65, 66, 67, 68, 69, 70, 71, 72, 73, 74, 75, 76, 77, 78, 79, 80, 81, 82, 83, 84, 85, 86, 107, 106, 105, 104, 103, 102, 101, 100, 99, 98, 97, 96, 95, 94, 93, 92, 91, 90, 89, 88, 87]
def WLp (a : Nat) : Prop := ∀ (cI cQ : ClassId) (h6 : Nat) (β : Nat → Nat) (h7 : Nat) (γ : Nat → Nat), ∃ e, (WLf cI cQ h6 β h7 γ)[gil.getD a 0]? = some (al0 h6 β h7 γ a, e) ∧ (a ≠ 60 → a ≠ 86 → e = wcell cI cQ (al0 h6 β h7 γ) sg0 a)
set_option maxRecDepth 100000 in
theorem wl_0 : WLp 0 := fun _ _ _ _ _ _ => ⟨_, rfl, fun _ _ => rfl⟩
set_option maxRecDepth 100000 in
theorem wl_1 : WLp 1 := fun _ _ _ _ _ _ => ⟨_, rfl, fun _ _ => rfl⟩
set_option maxRecDepth 100000 in
theorem wl_2 : WLp 2 := fun _ _ _ _ _ _ => ⟨_, rfl, fun _ _ => rfl⟩
set_option maxRecDepth 100000 in
theorem wl_3 : WLp 3 := fun _ _ _ _ _ _ => ⟨_, rfl, fun _ _ => rfl⟩
set_option maxRecDepth 100000 in
theorem wl_4 : WLp 4 := fun _ _ _ _ _ _ => ⟨_, rfl, fun _ _ => rfl⟩
set_option maxRecDepth 100000 in
theorem wl_5 : WLp 5 := fun _ _ _ _ _ _ => ⟨_, rfl, fun _ _ => rfl⟩
set_option maxRecDepth 100000 in
theorem wl_6 : WLp 6 := fun _ _ _ _ _ _ => ⟨_, rfl, fun _ _ => rfl⟩
set_option maxRecDepth 100000 in
theorem wl_7 : WLp 7 := fun _ _ _ _ _ _ => ⟨_, rfl, fun _ _ => rfl⟩
set_option maxRecDepth 100000 in
theorem wl_8 : WLp 8 := fun _ _ _ _ _ _ => ⟨_, rfl, fun _ _ => rfl⟩
set_option maxRecDepth 100000 in
theorem wl_9 : WLp 9 := fun _ _ _ _ _ _ => ⟨_, rfl, fun _ _ => rfl⟩
set_option maxRecDepth 100000 in
theorem wl_10 : WLp 10 := fun _ _ _ _ _ _ => ⟨_, rfl, fun _ _ => rfl⟩
set_option maxRecDepth 100000 in
theorem wl_11 : WLp 11 := fun _ _ _ _ _ _ => ⟨_, rfl, fun _ _ => rfl⟩
set_option maxRecDepth 100000 in
theorem wl_12 : WLp 12 := fun _ _ _ _ _ _ => ⟨_, rfl, fun _ _ => rfl⟩
set_option maxRecDepth 100000 in
theorem wl_13 : WLp 13 := fun _ _ _ _ _ _ => ⟨_, rfl, fun _ _ => rfl⟩
set_option maxRecDepth 100000 in
theorem wl_14 : WLp 14 := fun _ _ _ _ _ _ => ⟨_, rfl, fun _ _ => rfl⟩
set_option maxRecDepth 100000 in
theorem wl_15 : WLp 15 := fun _ _ _ _ _ _ => ⟨_, rfl, fun _ _ => rfl⟩
set_option maxRecDepth 100000 in
theorem wl_16 : WLp 16 := fun _ _ _ _ _ _ => ⟨_, rfl, fun _ _ => rfl⟩
set_option maxRecDepth 100000 in
theorem wl_17 : WLp 17 := fun _ _ _ _ _ _ => ⟨_, rfl, fun _ _ => rfl⟩
set_option maxRecDepth 100000 in
theorem wl_18 : WLp 18 := fun _ _ _ _ _ _ => ⟨_, rfl, fun _ _ => rfl⟩
set_option maxRecDepth 100000 in
theorem wl_19 : WLp 19 := fun _ _ _ _ _ _ => ⟨_, rfl, fun _ _ => rfl⟩
set_option maxRecDepth 100000 in
theorem wl_20 : WLp 20 := fun _ _ _ _ _ _ => ⟨_, rfl, fun _ _ => rfl⟩
set_option maxRecDepth 100000 in
theorem wl_21 : WLp 21 := fun _ _ _ _ _ _ => ⟨_, rfl, fun _ _ => rfl⟩
set_option maxRecDepth 100000 in
theorem wl_22 : WLp 22 := fun _ _ _ _ _ _ => ⟨_, rfl, fun _ _ => rfl⟩
set_option maxRecDepth 100000 in
theorem wl_23 : WLp 23 := fun _ _ _ _ _ _ => ⟨_, rfl, fun _ _ => rfl⟩
set_option maxRecDepth 100000 in
theorem wl_24 : WLp 24 := fun _ _ _ _ _ _ => ⟨_, rfl, fun _ _ => rfl⟩
set_option maxRecDepth 100000 in
theorem wl_25 : WLp 25 := fun _ _ _ _ _ _ => ⟨_, rfl, fun _ _ => rfl⟩
set_option maxRecDepth 100000 in
theorem wl_26 : WLp 26 := fun _ _ _ _ _ _ => ⟨_, rfl, fun _ _ => rfl⟩
set_option maxRecDepth 100000 in
theorem wl_27 : WLp 27 := fun _ _ _ _ _ _ => ⟨_, rfl, fun _ _ => rfl⟩
set_option maxRecDepth 100000 in
theorem wl_28 : WLp 28 := fun _ _ _ _ _ _ => ⟨_, rfl, fun _ _ => rfl⟩
set_option maxRecDepth 100000 in
theorem wl_29 : WLp 29 := fun _ _ _ _ _ _ => ⟨_, rfl, fun _ _ => rfl⟩
set_option maxRecDepth 100000 in
theorem wl_30 : WLp 30 := fun _ _ _ _ _ _ => ⟨_, rfl, fun _ _ => rfl⟩
set_option maxRecDepth 100000 in
theorem wl_31 : WLp 31 := fun _ _ _ _ _ _ => ⟨_, rfl, fun _ _ => rfl⟩
set_option maxRecDepth 100000 in
theorem wl_32 : WLp 32 := fun _ _ _ _ _ _ => ⟨_, rfl, fun _ _ => rfl⟩
set_option maxRecDepth 100000 in
theorem wl_33 : WLp 33 := fun _ _ _ _ _ _ => ⟨_, rfl, fun _ _ => rfl⟩
set_option maxRecDepth 100000 in
theorem wl_34 : WLp 34 := fun _ _ _ _ _ _ => ⟨_, rfl, fun _ _ => rfl⟩
set_option maxRecDepth 100000 in
theorem wl_35 : WLp 35 := fun _ _ _ _ _ _ => ⟨_, rfl, fun _ _ => rfl⟩
set_option maxRecDepth 100000 in
theorem wl_36 : WLp 36 := fun _ _ _ _ _ _ => ⟨_, rfl, fun _ _ => rfl⟩
set_option maxRecDepth 100000 in
theorem wl_37 : WLp 37 := fun _ _ _ _ _ _ => ⟨_, rfl, fun _ _ => rfl⟩
set_option maxRecDepth 100000 in
theorem wl_38 : WLp 38 := fun _ _ _ _ _ _ => ⟨_, rfl, fun _ _ => rfl⟩
set_option maxRecDepth 100000 in
theorem wl_39 : WLp 39 := fun _ _ _ _ _ _ => ⟨_, rfl, fun _ _ => rfl⟩
set_option maxRecDepth 100000 in
theorem wl_40 : WLp 40 := fun _ _ _ _ _ _ => ⟨_, rfl, fun _ _ => rfl⟩
set_option maxRecDepth 100000 in
theorem wl_41 : WLp 41 := fun _ _ _ _ _ _ => ⟨_, rfl, fun _ _ => rfl⟩
set_option maxRecDepth 100000 in
theorem wl_42 : WLp 42 := fun _ _ _ _ _ _ => ⟨_, rfl, fun _ _ => rfl⟩
set_option maxRecDepth 100000 in
theorem wl_43 : WLp 43 := fun _ _ _ _ _ _ => ⟨_, rfl, fun _ _ => rfl⟩
set_option maxRecDepth 100000 in
theorem wl_44 : WLp 44 := fun _ _ _ _ _ _ => ⟨_, rfl, fun _ _ => rfl⟩
set_option maxRecDepth 100000 in
theorem wl_45 : WLp 45 := fun _ _ _ _ _ _ => ⟨_, rfl, fun _ _ => rfl⟩
set_option maxRecDepth 100000 in
theorem wl_46 : WLp 46 := fun _ _ _ _ _ _ => ⟨_, rfl, fun _ _ => rfl⟩
set_option maxRecDepth 100000 in
theorem wl_47 : WLp 47 := fun _ _ _ _ _ _ => ⟨_, rfl, fun _ _ => rfl⟩
set_option maxRecDepth 100000 in
theorem wl_48 : WLp 48 := fun _ _ _ _ _ _ => ⟨_, rfl, fun _ _ => rfl⟩
set_option maxRecDepth 100000 in
theorem wl_49 : WLp 49 := fun _ _ _ _ _ _ => ⟨_, rfl, fun _ _ => rfl⟩
set_option maxRecDepth 100000 in
theorem wl_50 : WLp 50 := fun _ _ _ _ _ _ => ⟨_, rfl, fun _ _ => rfl⟩
set_option maxRecDepth 100000 in
theorem wl_51 : WLp 51 := fun _ _ _ _ _ _ => ⟨_, rfl, fun _ _ => rfl⟩
set_option maxRecDepth 100000 in
theorem wl_52 : WLp 52 := fun _ _ _ _ _ _ => ⟨_, rfl, fun _ _ => rfl⟩
set_option maxRecDepth 100000 in
theorem wl_53 : WLp 53 := fun _ _ _ _ _ _ => ⟨_, rfl, fun _ _ => rfl⟩
set_option maxRecDepth 100000 in
theorem wl_54 : WLp 54 := fun _ _ _ _ _ _ => ⟨_, rfl, fun _ _ => rfl⟩
set_option maxRecDepth 100000 in
theorem wl_55 : WLp 55 := fun _ _ _ _ _ _ => ⟨_, rfl, fun _ _ => rfl⟩
set_option maxRecDepth 100000 in
theorem wl_56 : WLp 56 := fun _ _ _ _ _ _ => ⟨_, rfl, fun _ _ => rfl⟩
set_option maxRecDepth 100000 in
theorem wl_57 : WLp 57 := fun _ _ _ _ _ _ => ⟨_, rfl, fun _ _ => rfl⟩
set_option maxRecDepth 100000 in
theorem wl_58 : WLp 58 := fun _ _ _ _ _ _ => ⟨_, rfl, fun _ _ => rfl⟩
set_option maxRecDepth 100000 in
theorem wl_59 : WLp 59 := fun _ _ _ _ _ _ => ⟨_, rfl, fun _ _ => rfl⟩
set_option maxRecDepth 100000 in
theorem wl_60 : WLp 60 := fun _ _ _ _ _ _ => ⟨_, rfl, fun h => absurd rfl h⟩
set_option maxRecDepth 100000 in
theorem wl_61 : WLp 61 := fun _ _ _ _ _ _ => ⟨_, rfl, fun _ _ => rfl⟩
set_option maxRecDepth 100000 in
theorem wl_62 : WLp 62 := fun _ _ _ _ _ _ => ⟨_, rfl, fun _ _ => rfl⟩
set_option maxRecDepth 100000 in
theorem wl_63 : WLp 63 := fun _ _ _ _ _ _ => ⟨_, rfl, fun _ _ => rfl⟩
set_option maxRecDepth 100000 in
theorem wl_64 : WLp 64 := fun _ _ _ _ _ _ => ⟨_, rfl, fun _ _ => rfl⟩
set_option maxRecDepth 100000 in
theorem wl_65 : WLp 65 := fun _ _ _ _ _ _ => ⟨_, rfl, fun _ _ => rfl⟩
set_option maxRecDepth 100000 in
theorem wl_66 : WLp 66 := fun _ _ _ _ _ _ => ⟨_, rfl, fun _ _ => rfl⟩
set_option maxRecDepth 100000 in
theorem wl_67 : WLp 67 := fun _ _ _ _ _ _ => ⟨_, rfl, fun _ _ => rfl⟩
set_option maxRecDepth 100000 in
theorem wl_68 : WLp 68 := fun _ _ _ _ _ _ => ⟨_, rfl, fun _ _ => rfl⟩
set_option maxRecDepth 100000 in
theorem wl_69 : WLp 69 := fun _ _ _ _ _ _ => ⟨_, rfl, fun _ _ => rfl⟩
set_option maxRecDepth 100000 in
theorem wl_70 : WLp 70 := fun _ _ _ _ _ _ => ⟨_, rfl, fun _ _ => rfl⟩
set_option maxRecDepth 100000 in
theorem wl_71 : WLp 71 := fun _ _ _ _ _ _ => ⟨_, rfl, fun _ _ => rfl⟩
set_option maxRecDepth 100000 in
theorem wl_72 : WLp 72 := fun _ _ _ _ _ _ => ⟨_, rfl, fun _ _ => rfl⟩
set_option maxRecDepth 100000 in
theorem wl_73 : WLp 73 := fun _ _ _ _ _ _ => ⟨_, rfl, fun _ _ => rfl⟩
set_option maxRecDepth 100000 in
theorem wl_74 : WLp 74 := fun _ _ _ _ _ _ => ⟨_, rfl, fun _ _ => rfl⟩
set_option maxRecDepth 100000 in
theorem wl_75 : WLp 75 := fun _ _ _ _ _ _ => ⟨_, rfl, fun _ _ => rfl⟩
set_option maxRecDepth 100000 in
theorem wl_76 : WLp 76 := fun _ _ _ _ _ _ => ⟨_, rfl, fun _ _ => rfl⟩
set_option maxRecDepth 100000 in
theorem wl_77 : WLp 77 := fun _ _ _ _ _ _ => ⟨_, rfl, fun _ _ => rfl⟩
set_option maxRecDepth 100000 in
theorem wl_78 : WLp 78 := fun _ _ _ _ _ _ => ⟨_, rfl, fun _ _ => rfl⟩
set_option maxRecDepth 100000 in
theorem wl_79 : WLp 79 := fun _ _ _ _ _ _ => ⟨_, rfl, fun _ _ => rfl⟩
set_option maxRecDepth 100000 in
theorem wl_80 : WLp 80 := fun _ _ _ _ _ _ => ⟨_, rfl, fun _ _ => rfl⟩
set_option maxRecDepth 100000 in
theorem wl_81 : WLp 81 := fun _ _ _ _ _ _ => ⟨_, rfl, fun _ _ => rfl⟩
set_option maxRecDepth 100000 in
theorem wl_82 : WLp 82 := fun _ _ _ _ _ _ => ⟨_, rfl, fun _ _ => rfl⟩
set_option maxRecDepth 100000 in
theorem wl_83 : WLp 83 := fun _ _ _ _ _ _ => ⟨_, rfl, fun _ _ => rfl⟩
set_option maxRecDepth 100000 in
theorem wl_84 : WLp 84 := fun _ _ _ _ _ _ => ⟨_, rfl, fun _ _ => rfl⟩
set_option maxRecDepth 100000 in
theorem wl_85 : WLp 85 := fun _ _ _ _ _ _ => ⟨_, rfl, fun _ _ => rfl⟩
set_option maxRecDepth 100000 in
theorem wl_86 : WLp 86 := fun _ _ _ _ _ _ => ⟨_, rfl, fun _ h => absurd rfl h⟩
set_option maxRecDepth 100000 in
theorem wl_87 : WLp 87 := fun _ _ _ _ _ _ => ⟨_, rfl, fun _ _ => rfl⟩
set_option maxRecDepth 100000 in
theorem wl_88 : WLp 88 := fun _ _ _ _ _ _ => ⟨_, rfl, fun _ _ => rfl⟩
set_option maxRecDepth 100000 in
theorem wl_89 : WLp 89 := fun _ _ _ _ _ _ => ⟨_, rfl, fun _ _ => rfl⟩
set_option maxRecDepth 100000 in
theorem wl_90 : WLp 90 := fun _ _ _ _ _ _ => ⟨_, rfl, fun _ _ => rfl⟩
set_option maxRecDepth 100000 in
theorem wl_91 : WLp 91 := fun _ _ _ _ _ _ => ⟨_, rfl, fun _ _ => rfl⟩
set_option maxRecDepth 100000 in
theorem wl_92 : WLp 92 := fun _ _ _ _ _ _ => ⟨_, rfl, fun _ _ => rfl⟩
set_option maxRecDepth 100000 in
theorem wl_93 : WLp 93 := fun _ _ _ _ _ _ => ⟨_, rfl, fun _ _ => rfl⟩
set_option maxRecDepth 100000 in
theorem wl_94 : WLp 94 := fun _ _ _ _ _ _ => ⟨_, rfl, fun _ _ => rfl⟩
set_option maxRecDepth 100000 in
theorem wl_95 : WLp 95 := fun _ _ _ _ _ _ => ⟨_, rfl, fun _ _ => rfl⟩
set_option maxRecDepth 100000 in
theorem wl_96 : WLp 96 := fun _ _ _ _ _ _ => ⟨_, rfl, fun _ _ => rfl⟩
set_option maxRecDepth 100000 in
theorem wl_97 : WLp 97 := fun _ _ _ _ _ _ => ⟨_, rfl, fun _ _ => rfl⟩
set_option maxRecDepth 100000 in
theorem wl_98 : WLp 98 := fun _ _ _ _ _ _ => ⟨_, rfl, fun _ _ => rfl⟩
set_option maxRecDepth 100000 in
theorem wl_99 : WLp 99 := fun _ _ _ _ _ _ => ⟨_, rfl, fun _ _ => rfl⟩
set_option maxRecDepth 100000 in
theorem wl_100 : WLp 100 := fun _ _ _ _ _ _ => ⟨_, rfl, fun _ _ => rfl⟩
set_option maxRecDepth 100000 in
theorem wl_101 : WLp 101 := fun _ _ _ _ _ _ => ⟨_, rfl, fun _ _ => rfl⟩
set_option maxRecDepth 100000 in
theorem wl_102 : WLp 102 := fun _ _ _ _ _ _ => ⟨_, rfl, fun _ _ => rfl⟩
set_option maxRecDepth 100000 in
theorem wl_103 : WLp 103 := fun _ _ _ _ _ _ => ⟨_, rfl, fun _ _ => rfl⟩
set_option maxRecDepth 100000 in
theorem wl_104 : WLp 104 := fun _ _ _ _ _ _ => ⟨_, rfl, fun _ _ => rfl⟩
set_option maxRecDepth 100000 in
theorem wl_105 : WLp 105 := fun _ _ _ _ _ _ => ⟨_, rfl, fun _ _ => rfl⟩
set_option maxRecDepth 100000 in
theorem wl_106 : WLp 106 := fun _ _ _ _ _ _ => ⟨_, rfl, fun _ _ => rfl⟩
set_option maxRecDepth 100000 in
theorem wl_107 : WLp 107 := fun _ _ _ _ _ _ => ⟨_, rfl, fun _ _ => rfl⟩
set_option maxRecDepth 100000 in
theorem wl_all : ∀ a, a < 108 → WLp a := fun a h => by
  have key : ∀ a ∈ ([0, 1, 2, 3, 4, 5, 6, 7, 8, 9, 10, 11, 12, 13, 14, 15, 16, 17, 18, 19, 20, 21, 22, 23, 24, 25, 26, 27, 28, 29, 30, 31, 32, 33, 34, 35, 36, 37, 38, 39, 40, 41, 42, 43, 44, 45, 46, 47, 48, 49, 50, 51, 52, 53, 54, 55, 56, 57, 58, 59, 60, 61, 62, 63, 64, 65, 66, 67, 68, 69, 70, 71, 72, 73, 74, 75, 76, 77, 78, 79, 80, 81, 82, 83, 84, 85, 86, 87, 88, 89, 90, 91, 92, 93, 94, 95, 96, 97, 98, 99, 100, 101, 102, 103, 104, 105, 106, 107] : List Nat), WLp a := (List.forall_mem_cons.mpr ⟨wl_0, (List.forall_mem_cons.mpr ⟨wl_1, (List.forall_mem_cons.mpr ⟨wl_2, (List.forall_mem_cons.mpr ⟨wl_3, (List.forall_mem_cons.mpr ⟨wl_4, (List.forall_mem_cons.mpr ⟨wl_5, (List.forall_mem_cons.mpr ⟨wl_6, (List.forall_mem_cons.mpr ⟨wl_7, (List.forall_mem_cons.mpr ⟨wl_8, (List.forall_mem_cons.mpr ⟨wl_9, (List.forall_mem_cons.mpr ⟨wl_10, (List.forall_mem_cons.mpr ⟨wl_11, (List.forall_mem_cons.mpr ⟨wl_12, (List.forall_mem_cons.mpr ⟨wl_13, (List.forall_mem_cons.mpr ⟨wl_14, (List.forall_mem_cons.mpr ⟨wl_15, (List.forall_mem_cons.mpr ⟨wl_16, (List.forall_mem_cons.mpr ⟨wl_17, (List.forall_mem_cons.mpr ⟨wl_18, (List.forall_mem_cons.mpr ⟨wl_19, (List.forall_mem_cons.mpr ⟨wl_20, (List.forall_mem_cons.mpr ⟨wl_21, (List.forall_mem_cons.mpr ⟨wl_22, (List.forall_mem_cons.mpr ⟨wl_23, (List.forall_mem_cons.mpr ⟨wl_24, (List.forall_mem_cons.mpr ⟨wl_25, (List.forall_mem_cons.mpr ⟨wl_26, (List.forall_mem_cons.mpr ⟨wl_27, (List.forall_mem_cons.mpr ⟨wl_28, (List.forall_mem_cons.mpr ⟨wl_29, (List.forall_mem_cons.mpr ⟨wl_30, (List.forall_mem_cons.mpr ⟨wl_31, (List.forall_mem_cons.mpr ⟨wl_32, (List.forall_mem_cons.mpr ⟨wl_33, (List.forall_mem_cons.mpr ⟨wl_34, (List.forall_mem_cons.mpr ⟨wl_35, (List.forall_mem_cons.mpr ⟨wl_36, (List.forall_mem_cons.mpr ⟨wl_37, (List.forall_mem_cons.mpr ⟨wl_38, (List.forall_mem_cons.mpr ⟨wl_39, (List.forall_mem_cons.mpr ⟨wl_40, (List.forall_mem_cons.mpr ⟨wl_41, (List.forall_mem_cons.mpr ⟨wl_42, (List.forall_mem_cons.mpr ⟨wl_43, (List.forall_mem_cons.mpr ⟨wl_44, (List.forall_mem_cons.mpr ⟨wl_45, (List.forall_mem_cons.mpr ⟨wl_46, (List.forall_mem_cons.mpr ⟨wl_47, (List.forall_mem_cons.mpr ⟨wl_48, (List.forall_mem_cons.mpr ⟨wl_49, (List.forall_mem_cons.mpr ⟨wl_50, (List.forall_mem_cons.mpr ⟨wl_51, (List.forall_mem_cons.mpr ⟨wl_52, (List.forall_mem_cons.mpr ⟨wl_53, (List.forall_mem_cons.mpr ⟨wl_54, (List.forall_mem_cons.mpr ⟨wl_55, (List.forall_mem_cons.mpr ⟨wl_56, (List.forall_mem_cons.mpr ⟨wl_57, (List.forall_mem_cons.mpr ⟨wl_58, (List.forall_mem_cons.mpr ⟨wl_59, (List.forall_mem_cons.mpr ⟨wl_60, (List.forall_mem_cons.mpr ⟨wl_61, (List.forall_mem_cons.mpr ⟨wl_62, (List.forall_mem_cons.mpr ⟨wl_63, (List.forall_mem_cons.mpr ⟨wl_64, (List.forall_mem_cons.mpr ⟨wl_65, (List.forall_mem_cons.mpr ⟨wl_66, (List.forall_mem_cons.mpr ⟨wl_67, (List.forall_mem_cons.mpr ⟨wl_68, (List.forall_mem_cons.mpr ⟨wl_69, (List.forall_mem_cons.mpr ⟨wl_70, (List.forall_mem_cons.mpr ⟨wl_71, (List.forall_mem_cons.mpr ⟨wl_72, (List.forall_mem_cons.mpr ⟨wl_73, (List.forall_mem_cons.mpr ⟨wl_74, (List.forall_mem_cons.mpr ⟨wl_75, (List.forall_mem_cons.mpr ⟨wl_76, (List.forall_mem_cons.mpr ⟨wl_77, (List.forall_mem_cons.mpr ⟨wl_78, (List.forall_mem_cons.mpr ⟨wl_79, (List.forall_mem_cons.mpr ⟨wl_80, (List.forall_mem_cons.mpr ⟨wl_81, (List.forall_mem_cons.mpr ⟨wl_82, (List.forall_mem_cons.mpr ⟨wl_83, (List.forall_mem_cons.mpr ⟨wl_84, (List.forall_mem_cons.mpr ⟨wl_85, (List.forall_mem_cons.mpr ⟨wl_86, (List.forall_mem_cons.mpr ⟨wl_87, (List.forall_mem_cons.mpr ⟨wl_88, (List.forall_mem_cons.mpr ⟨wl_89, (List.forall_mem_cons.mpr ⟨wl_90, (List.forall_mem_cons.mpr ⟨wl_91, (List.forall_mem_cons.mpr ⟨wl_92, (List.forall_mem_cons.mpr ⟨wl_93, (List.forall_mem_cons.mpr ⟨wl_94, (List.forall_mem_cons.mpr ⟨wl_95, (List.forall_mem_cons.mpr ⟨wl_96, (List.forall_mem_cons.mpr ⟨wl_97, (List.forall_mem_cons.mpr ⟨wl_98, (List.forall_mem_cons.mpr ⟨wl_99, (List.forall_mem_cons.mpr ⟨wl_100, (List.forall_mem_cons.mpr ⟨wl_101, (List.forall_mem_cons.mpr ⟨wl_102, (List.forall_mem_cons.mpr ⟨wl_103, (List.forall_mem_cons.mpr ⟨wl_104, (List.forall_mem_cons.mpr ⟨wl_105, (List.forall_mem_cons.mpr ⟨wl_106, (List.forall_mem_cons.mpr ⟨wl_107, (fun _ h => by cases h)⟩)⟩)⟩)⟩)⟩)⟩)⟩)⟩)⟩)⟩)⟩)⟩)⟩)⟩)⟩)⟩)⟩)⟩)⟩)⟩)⟩)⟩)⟩)⟩)⟩)⟩)⟩)⟩)⟩)⟩)⟩)⟩)⟩)⟩)⟩)⟩)⟩)⟩)⟩)⟩)⟩)⟩)⟩)⟩)⟩)⟩)⟩)⟩)⟩)⟩)⟩)⟩)⟩)⟩)⟩)⟩)⟩)⟩)⟩)⟩)⟩)⟩)⟩)⟩)⟩)⟩)⟩)⟩)⟩)⟩)⟩)⟩)⟩)⟩)⟩)⟩)⟩)⟩)⟩)⟩)⟩)⟩)⟩)⟩)⟩)⟩)⟩)⟩)⟩)⟩)⟩)⟩)⟩)⟩)⟩)⟩)⟩)⟩)⟩)⟩)⟩)⟩)⟩)⟩)⟩)⟩)⟩)⟩)
  exact key a (by rw [show ([0, 1, 2, 3, 4, 5, 6, 7, 8, 9, 10, 11, 12, 13, 14, 15, 16, 17, 18, 19, 20, 21, 22, 23, 24, 25, 26, 27, 28, 29, 30, 31, 32, 33, 34, 35, 36, 37, 38, 39, 40, 41, 42, 43, 44, 45, 46, 47, 48, 49, 50, 51, 52, 53, 54, 55, 56, 57, 58, 59, 60, 61, 62, 63, 64, 65, 66, 67, 68, 69, 70, 71, 72, 73, 74, 75, 76, 77, 78, 79, 80, 81, 82, 83, 84, 85, 86, 87, 88, 89, 90, 91, 92, 93, 94, 95, 96, 97, 98, 99, 100, 101, 102, 103, 104, 105, 106, 107] : List Nat) = List.range 108 from rfl]; exact List.mem_range.mpr h)
