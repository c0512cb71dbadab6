/-! THE LAW'S LOOP (written by genloop.py) -/
def LCs (p : Program) (l : Launch) (e : Env) (s : State) (m : MethodId) (below : List Frame) (meth : Method) (c : Code) (b L : Nat) (xs : Nat → Int32) (D : va_G) (cI cQ cJ : ClassId) (α : Nat → Nat) (qo : Nat) (Q : State → Prop) (pc : Nat) : Prop :=
  ∀ (H : Heap) (locs : List Loc) (cells slots : Nat) (ls : Array Slot) (o : Nat → Int64) (σ T P : Sg) (i : Nat), i + 5 < L → Inv σ T P → RS σ → va_P D vwCl (WS cI cQ α σ) H → va_P D vwCl (oW qo cJ o) H → va_S (lA s) s.heap H locs → lv_has ls 8 [(0, .ref b), (1, .ref (α 45)), (2, .ref (α 85)), (3, .ref qo), (4, .int (nI i))] → (cells + 1000 ≤ room_1.cells ∧ slots + 10000 ≤ room_1.slots) →
    (∀ (σ1 T1 P1 : Sg) (o1 : Nat → Int64) (H1 : Heap) (locs1 : List Loc) (ls1 : Array Slot) (cells1 slots1 : Nat), cells1 ≤ cells + 1000 → slots1 ≤ slots + 10000 → Inv σ1 T1 P1 → RS σ1 → va_P D vwCl (WS cI cQ α σ1) H1 → va_P D vwCl (oW qo cJ o1) H1 → va_S (lA s) s.heap H1 locs1 → lv_has ls1 8 [(0, .ref b), (1, .ref (α 45)), (2, .ref (α 85)), (3, .ref qo), (4, .int (nI i))] → W p l e room_1 s m #[Value.ref b] below meth c H1 locs1 cells1 slots1 Q (F0 m 1486 ls1 [])) →
    W p l e room_1 s m #[Value.ref b] below meth c H locs cells slots Q (F0 m pc ls [])
section LOOP
variable {p : Program} {l : Launch} {e : Env} {s : State} {m : MethodId} {below : List Frame} {meth : Method} {c : Code} {b L : Nat} {xs : Nat → Int32} {D : va_G} {cI cQ cJ : ClassId} {α : Nat → Nat} {qo : Nat} {Q : State → Prop}
theorem lcs_0 (X : Lc p s m meth c b L xs D cI cQ cJ α qo) : LCs p l e s m below meth c b L xs D cI cQ cJ α qo Q 216 := fun H locs cells slots ls o σ T P i hi hI rσ hP hO hS hl hcs kk => lcase_0 X hi hI rσ hP hO hS hl ⟨by omega, by omega⟩ (fun σ1 T1 P1 H1 locs1 hI1 r1 hP1 hO1 hS1 => kk σ1 T1 P1 o H1 locs1 ls cells slots (by omega) (by omega) hI1 r1 hP1 hO1 hS1 hl)
theorem lcs_1 (X : Lc p s m meth c b L xs D cI cQ cJ α qo) : LCs p l e s m below meth c b L xs D cI cQ cJ α qo Q 241 := fun H locs cells slots ls o σ T P i hi hI rσ hP hO hS hl hcs kk => lcase_1 X hi hI rσ hP hO hS hl ⟨by omega, by omega⟩ (fun σ1 T1 P1 H1 locs1 hI1 r1 hP1 hO1 hS1 => kk σ1 T1 P1 o H1 locs1 ls cells slots (by omega) (by omega) hI1 r1 hP1 hO1 hS1 hl)
theorem lcs_2 (X : Lc p s m meth c b L xs D cI cQ cJ α qo) : LCs p l e s m below meth c b L xs D cI cQ cJ α qo Q 278 := fun H locs cells slots ls o σ T P i hi hI rσ hP hO hS hl hcs kk => lcase_2 X hi hI rσ hP hO hS hl ⟨by omega, by omega⟩ (fun σ1 T1 P1 H1 locs1 hI1 r1 hP1 hO1 hS1 => kk σ1 T1 P1 o H1 locs1 ls cells slots (by omega) (by omega) hI1 r1 hP1 hO1 hS1 hl)
theorem lcs_3 (X : Lc p s m meth c b L xs D cI cQ cJ α qo) : LCs p l e s m below meth c b L xs D cI cQ cJ α qo Q 315 := fun H locs cells slots ls o σ T P i hi hI rσ hP hO hS hl hcs kk => lcase_3 X hi hI rσ hP hO hS hl ⟨by omega, by omega⟩ (fun σ1 T1 P1 H1 locs1 hI1 r1 hP1 hO1 hS1 => kk σ1 T1 P1 o H1 locs1 ls cells slots (by omega) (by omega) hI1 r1 hP1 hO1 hS1 hl)
theorem lcs_4 (X : Lc p s m meth c b L xs D cI cQ cJ α qo) : LCs p l e s m below meth c b L xs D cI cQ cJ α qo Q 352 := fun H locs cells slots ls o σ T P i hi hI rσ hP hO hS hl hcs kk => lcase_4 X hi hI rσ hP hO hS hl ⟨by omega, by omega⟩ (fun σ1 T1 P1 H1 locs1 hI1 r1 hP1 hO1 hS1 => kk σ1 T1 P1 o H1 locs1 ls cells slots (by omega) (by omega) hI1 r1 hP1 hO1 hS1 hl)
theorem lcs_5 (X : Lc p s m meth c b L xs D cI cQ cJ α qo) : LCs p l e s m below meth c b L xs D cI cQ cJ α qo Q 389 := fun H locs cells slots ls o σ T P i hi hI rσ hP hO hS hl hcs kk => lcase_5 X hi hI rσ hP hO hS hl ⟨by omega, by omega⟩ (fun σ1 T1 P1 H1 locs1 hI1 r1 hP1 hO1 hS1 => kk σ1 T1 P1 o H1 locs1 ls cells slots (by omega) (by omega) hI1 r1 hP1 hO1 hS1 hl)
theorem lcs_6 (X : Lc p s m meth c b L xs D cI cQ cJ α qo) : LCs p l e s m below meth c b L xs D cI cQ cJ α qo Q 426 := fun H locs cells slots ls o σ T P i hi hI rσ hP hO hS hl hcs kk => lcase_6 X hi hI rσ hP hO hS hl ⟨by omega, by omega⟩ (fun σ1 T1 P1 H1 locs1 hI1 r1 hP1 hO1 hS1 => kk σ1 T1 P1 o H1 locs1 ls cells slots (by omega) (by omega) hI1 r1 hP1 hO1 hS1 hl)
theorem lcs_7 (X : Lc p s m meth c b L xs D cI cQ cJ α qo) : LCs p l e s m below meth c b L xs D cI cQ cJ α qo Q 463 := fun H locs cells slots ls o σ T P i hi hI rσ hP hO hS hl hcs kk => lcase_7 X hi hI rσ hP hO hS hl ⟨by omega, by omega⟩ (fun σ1 T1 P1 H1 locs1 hI1 r1 hP1 hO1 hS1 => kk σ1 T1 P1 o H1 locs1 ls cells slots (by omega) (by omega) hI1 r1 hP1 hO1 hS1 hl)
theorem lcs_8 (X : Lc p s m meth c b L xs D cI cQ cJ α qo) : LCs p l e s m below meth c b L xs D cI cQ cJ α qo Q 476 := fun H locs cells slots ls o σ T P i hi hI rσ hP hO hS hl hcs kk => lcase_8 X hi hI rσ hP hO hS hl ⟨by omega, by omega⟩ (fun σ1 T1 P1 H1 locs1 hI1 r1 hP1 hO1 hS1 => kk σ1 T1 P1 o H1 locs1 ls cells slots (by omega) (by omega) hI1 r1 hP1 hO1 hS1 hl)
theorem lcs_9 (X : Lc p s m meth c b L xs D cI cQ cJ α qo) : LCs p l e s m below meth c b L xs D cI cQ cJ α qo Q 489 := fun H locs cells slots ls o σ T P i hi hI rσ hP hO hS hl hcs kk => lcase_9 X hi hI rσ hP hO hS hl ⟨by omega, by omega⟩ (fun σ1 T1 P1 H1 locs1 hI1 r1 hP1 hO1 hS1 => kk σ1 T1 P1 o H1 locs1 ls cells slots (by omega) (by omega) hI1 r1 hP1 hO1 hS1 hl)
theorem lcs_10 (X : Lc p s m meth c b L xs D cI cQ cJ α qo) : LCs p l e s m below meth c b L xs D cI cQ cJ α qo Q 502 := fun H locs cells slots ls o σ T P i hi hI rσ hP hO hS hl hcs kk => lcase_10 X hi hI rσ hP hO hS hl ⟨by omega, by omega⟩ (fun σ1 T1 P1 H1 locs1 hI1 r1 hP1 hO1 hS1 => kk σ1 T1 P1 o H1 locs1 ls cells slots (by omega) (by omega) hI1 r1 hP1 hO1 hS1 hl)
theorem lcs_11 (X : Lc p s m meth c b L xs D cI cQ cJ α qo) : LCs p l e s m below meth c b L xs D cI cQ cJ α qo Q 539 := fun H locs cells slots ls o σ T P i hi hI rσ hP hO hS hl hcs kk => lcase_11 X hi hI rσ hP hO hS hl ⟨by omega, by omega⟩ (fun σ1 T1 P1 H1 locs1 hI1 r1 hP1 hO1 hS1 => kk σ1 T1 P1 o H1 locs1 ls cells slots (by omega) (by omega) hI1 r1 hP1 hO1 hS1 hl)
theorem lcs_12 (X : Lc p s m meth c b L xs D cI cQ cJ α qo) : LCs p l e s m below meth c b L xs D cI cQ cJ α qo Q 576 := fun H locs cells slots ls o σ T P i hi hI rσ hP hO hS hl hcs kk => lcase_12 X hi hI rσ hP hO hS hl ⟨by omega, by omega⟩ (fun σ1 T1 P1 H1 locs1 hI1 r1 hP1 hO1 hS1 => kk σ1 T1 P1 o H1 locs1 ls cells slots (by omega) (by omega) hI1 r1 hP1 hO1 hS1 hl)
theorem lcs_13 (X : Lc p s m meth c b L xs D cI cQ cJ α qo) : LCs p l e s m below meth c b L xs D cI cQ cJ α qo Q 601 := fun H locs cells slots ls o σ T P i hi hI rσ hP hO hS hl hcs kk => lcase_13 X hi hI rσ hP hO hS hl ⟨by omega, by omega⟩ (fun σ1 T1 P1 H1 locs1 hI1 r1 hP1 hO1 hS1 => kk σ1 T1 P1 o H1 locs1 ls cells slots (by omega) (by omega) hI1 r1 hP1 hO1 hS1 hl)
theorem lcs_14 (X : Lc p s m meth c b L xs D cI cQ cJ α qo) : LCs p l e s m below meth c b L xs D cI cQ cJ α qo Q 626 := fun H locs cells slots ls o σ T P i hi hI rσ hP hO hS hl hcs kk => lcase_14 X hi hI rσ hP hO hS hl ⟨by omega, by omega⟩ (fun σ1 T1 P1 H1 locs1 hI1 r1 hP1 hO1 hS1 => kk σ1 T1 P1 o H1 locs1 ls cells slots (by omega) (by omega) hI1 r1 hP1 hO1 hS1 hl)
theorem lcs_15 (X : Lc p s m meth c b L xs D cI cQ cJ α qo) : LCs p l e s m below meth c b L xs D cI cQ cJ α qo Q 651 := fun H locs cells slots ls o σ T P i hi hI rσ hP hO hS hl hcs kk => lcase_15 X hi hI rσ hP hO hS hl ⟨by omega, by omega⟩ (fun σ1 T1 P1 H1 locs1 hI1 r1 hP1 hO1 hS1 => kk σ1 T1 P1 o H1 locs1 ls cells slots (by omega) (by omega) hI1 r1 hP1 hO1 hS1 hl)
theorem lcs_16 (X : Lc p s m meth c b L xs D cI cQ cJ α qo) : LCs p l e s m below meth c b L xs D cI cQ cJ α qo Q 676 := fun H locs cells slots ls o σ T P i hi hI rσ hP hO hS hl hcs kk => lcase_16 X hi hI rσ hP hO hS hl ⟨by omega, by omega⟩ (fun σ1 T1 P1 H1 locs1 hI1 r1 hP1 hO1 hS1 => kk σ1 T1 P1 o H1 locs1 ls cells slots (by omega) (by omega) hI1 r1 hP1 hO1 hS1 hl)
theorem lcs_17 (X : Lc p s m meth c b L xs D cI cQ cJ α qo) : LCs p l e s m below meth c b L xs D cI cQ cJ α qo Q 689 := fun H locs cells slots ls o σ T P i hi hI rσ hP hO hS hl hcs kk => lcase_17 X hi hI rσ hP hO hS hl ⟨by omega, by omega⟩ (fun σ1 T1 P1 H1 locs1 hI1 r1 hP1 hO1 hS1 => kk σ1 T1 P1 o H1 locs1 ls cells slots (by omega) (by omega) hI1 r1 hP1 hO1 hS1 hl)
theorem lcs_18 (X : Lc p s m meth c b L xs D cI cQ cJ α qo) : LCs p l e s m below meth c b L xs D cI cQ cJ α qo Q 714 := fun H locs cells slots ls o σ T P i hi hI rσ hP hO hS hl hcs kk => lcase_18 X hi hI rσ hP hO hS hl ⟨by omega, by omega⟩ (fun σ1 T1 P1 H1 locs1 hI1 r1 hP1 hO1 hS1 => kk σ1 T1 P1 o H1 locs1 ls cells slots (by omega) (by omega) hI1 r1 hP1 hO1 hS1 hl)
theorem lcs_19 (X : Lc p s m meth c b L xs D cI cQ cJ α qo) : LCs p l e s m below meth c b L xs D cI cQ cJ α qo Q 739 := fun H locs cells slots ls o σ T P i hi hI rσ hP hO hS hl hcs kk => lcase_19 X hi hI rσ hP hO hS hl ⟨by omega, by omega⟩ (fun σ1 T1 P1 H1 locs1 hI1 r1 hP1 hO1 hS1 => kk σ1 T1 P1 o H1 locs1 ls cells slots (by omega) (by omega) hI1 r1 hP1 hO1 hS1 hl)
theorem lcs_20 (X : Lc p s m meth c b L xs D cI cQ cJ α qo) : LCs p l e s m below meth c b L xs D cI cQ cJ α qo Q 764 := fun H locs cells slots ls o σ T P i hi hI rσ hP hO hS hl hcs kk => lcase_20 X hi hI rσ hP hO hS hl ⟨by omega, by omega⟩ (fun σ1 T1 P1 H1 locs1 hI1 r1 hP1 hO1 hS1 => kk σ1 T1 P1 o H1 locs1 ls cells slots (by omega) (by omega) hI1 r1 hP1 hO1 hS1 hl)
theorem lcs_21 (X : Lc p s m meth c b L xs D cI cQ cJ α qo) : LCs p l e s m below meth c b L xs D cI cQ cJ α qo Q 789 := fun H locs cells slots ls o σ T P i hi hI rσ hP hO hS hl hcs kk => lcase_21 X hi hI rσ hP hO hS hl ⟨by omega, by omega⟩ (fun σ1 T1 P1 H1 locs1 hI1 r1 hP1 hO1 hS1 => kk σ1 T1 P1 o H1 locs1 ls cells slots (by omega) (by omega) hI1 r1 hP1 hO1 hS1 hl)
theorem lcs_22 (X : Lc p s m meth c b L xs D cI cQ cJ α qo) : LCs p l e s m below meth c b L xs D cI cQ cJ α qo Q 826 := fun H locs cells slots ls o σ T P i hi hI rσ hP hO hS hl hcs kk => lcase_22 X hi hI rσ hP hO hS hl ⟨by omega, by omega⟩ (fun σ1 T1 P1 H1 locs1 hI1 r1 hP1 hO1 hS1 => kk σ1 T1 P1 o H1 locs1 ls cells slots (by omega) (by omega) hI1 r1 hP1 hO1 hS1 hl)
theorem lcs_23 (X : Lc p s m meth c b L xs D cI cQ cJ α qo) : LCs p l e s m below meth c b L xs D cI cQ cJ α qo Q 863 := fun H locs cells slots ls o σ T P i hi hI rσ hP hO hS hl hcs kk => lcase_23 X hi hI rσ hP hO hS hl ⟨by omega, by omega⟩ (fun σ1 T1 P1 H1 locs1 hI1 r1 hP1 hO1 hS1 => kk σ1 T1 P1 o H1 locs1 ls cells slots (by omega) (by omega) hI1 r1 hP1 hO1 hS1 hl)
theorem lcs_24 (X : Lc p s m meth c b L xs D cI cQ cJ α qo) : LCs p l e s m below meth c b L xs D cI cQ cJ α qo Q 876 := fun H locs cells slots ls o σ T P i hi hI rσ hP hO hS hl hcs kk => lcase_24 X hi hI rσ hP hO hS hl ⟨by omega, by omega⟩ (fun σ1 T1 P1 H1 locs1 hI1 r1 hP1 hO1 hS1 => kk σ1 T1 P1 o H1 locs1 ls cells slots (by omega) (by omega) hI1 r1 hP1 hO1 hS1 hl)
theorem lcs_25 (X : Lc p s m meth c b L xs D cI cQ cJ α qo) : LCs p l e s m below meth c b L xs D cI cQ cJ α qo Q 937 := fun H locs cells slots ls o σ T P i hi hI rσ hP hO hS hl hcs kk => lcase_25 X hi hI rσ hP hO hS hl ⟨by omega, by omega⟩ (fun σ1 T1 P1 H1 locs1 hI1 r1 hP1 hO1 hS1 => kk σ1 T1 P1 o H1 locs1 ls cells slots (by omega) (by omega) hI1 r1 hP1 hO1 hS1 hl)
theorem lcs_26 (X : Lc p s m meth c b L xs D cI cQ cJ α qo) : LCs p l e s m below meth c b L xs D cI cQ cJ α qo Q 998 := fun H locs cells slots ls o σ T P i hi hI rσ hP hO hS hl hcs kk => lcase_26 X hi hI rσ hP hO hS hl ⟨by omega, by omega⟩ (fun σ1 T1 P1 H1 locs1 hI1 r1 hP1 hO1 hS1 => kk σ1 T1 P1 o H1 locs1 ls cells slots (by omega) (by omega) hI1 r1 hP1 hO1 hS1 hl)
theorem lcs_27 (X : Lc p s m meth c b L xs D cI cQ cJ α qo) : LCs p l e s m below meth c b L xs D cI cQ cJ α qo Q 1011 := fun H locs cells slots ls o σ T P i hi hI rσ hP hO hS hl hcs kk => lcase_27 X hi hI rσ hP hO hS hl ⟨by omega, by omega⟩ (fun σ1 T1 P1 H1 locs1 hI1 r1 hP1 hO1 hS1 => kk σ1 T1 P1 o H1 locs1 ls cells slots (by omega) (by omega) hI1 r1 hP1 hO1 hS1 hl)
theorem lcs_28 (X : Lc p s m meth c b L xs D cI cQ cJ α qo) : LCs p l e s m below meth c b L xs D cI cQ cJ α qo Q 1036 := fun H locs cells slots ls o σ T P i hi hI rσ hP hO hS hl hcs kk => lcase_28 X hi hI rσ hP hO hS hl ⟨by omega, by omega⟩ (fun σ1 T1 P1 H1 locs1 hI1 r1 hP1 hO1 hS1 => kk σ1 T1 P1 o H1 locs1 ls cells slots (by omega) (by omega) hI1 r1 hP1 hO1 hS1 hl)
theorem lcs_29 (X : Lc p s m meth c b L xs D cI cQ cJ α qo) : LCs p l e s m below meth c b L xs D cI cQ cJ α qo Q 1073 := fun H locs cells slots ls o σ T P i hi hI rσ hP hO hS hl hcs kk => lcase_29 X hi hI rσ hP hO hS hl ⟨by omega, by omega⟩ (fun σ1 T1 P1 H1 locs1 hI1 r1 hP1 hO1 hS1 => kk σ1 T1 P1 o H1 locs1 ls cells slots (by omega) (by omega) hI1 r1 hP1 hO1 hS1 hl)
theorem lcs_30 (X : Lc p s m meth c b L xs D cI cQ cJ α qo) : LCs p l e s m below meth c b L xs D cI cQ cJ α qo Q 1086 := fun H locs cells slots ls o σ T P i hi hI rσ hP hO hS hl hcs kk => lcase_30 X hi hI rσ hP hO hS hl ⟨by omega, by omega⟩ (fun σ1 T1 P1 H1 locs1 hI1 r1 hP1 hO1 hS1 => kk σ1 T1 P1 o H1 locs1 ls cells slots (by omega) (by omega) hI1 r1 hP1 hO1 hS1 hl)
theorem lcs_31 (X : Lc p s m meth c b L xs D cI cQ cJ α qo) : LCs p l e s m below meth c b L xs D cI cQ cJ α qo Q 1099 := fun H locs cells slots ls o σ T P i hi hI rσ hP hO hS hl hcs kk => lcase_31 X hi hI rσ hP hO hS hl ⟨by omega, by omega⟩ (fun σ1 T1 P1 H1 locs1 hI1 r1 hP1 hO1 hS1 => kk σ1 T1 P1 o H1 locs1 ls cells slots (by omega) (by omega) hI1 r1 hP1 hO1 hS1 hl)
theorem lcs_32 (X : Lc p s m meth c b L xs D cI cQ cJ α qo) : LCs p l e s m below meth c b L xs D cI cQ cJ α qo Q 1112 := fun H locs cells slots ls o σ T P i hi hI rσ hP hO hS hl hcs kk => lcase_32 X hi hI rσ hP hO hS hl ⟨by omega, by omega⟩ (fun σ1 T1 P1 H1 locs1 hI1 r1 hP1 hO1 hS1 => kk σ1 T1 P1 o H1 locs1 ls cells slots (by omega) (by omega) hI1 r1 hP1 hO1 hS1 hl)
theorem lcs_33 (X : Lc p s m meth c b L xs D cI cQ cJ α qo) : LCs p l e s m below meth c b L xs D cI cQ cJ α qo Q 1137 := fun H locs cells slots ls o σ T P i hi hI rσ hP hO hS hl hcs kk => lcase_33 X hi hI rσ hP hO hS hl ⟨by omega, by omega⟩ (fun σ1 T1 P1 H1 locs1 hI1 r1 hP1 hO1 hS1 => kk σ1 T1 P1 o H1 locs1 ls cells slots (by omega) (by omega) hI1 r1 hP1 hO1 hS1 hl)
theorem lcs_34 (X : Lc p s m meth c b L xs D cI cQ cJ α qo) : LCs p l e s m below meth c b L xs D cI cQ cJ α qo Q 1198 := fun H locs cells slots ls o σ T P i hi hI rσ hP hO hS hl hcs kk => lcase_34 X hi hI rσ hP hO hS hl ⟨by omega, by omega⟩ (fun σ1 T1 P1 H1 locs1 hI1 r1 hP1 hO1 hS1 => kk σ1 T1 P1 o H1 locs1 ls cells slots (by omega) (by omega) hI1 r1 hP1 hO1 hS1 hl)
theorem lcs_35 (X : Lc p s m meth c b L xs D cI cQ cJ α qo) : LCs p l e s m below meth c b L xs D cI cQ cJ α qo Q 1247 := fun H locs cells slots ls o σ T P i hi hI rσ hP hO hS hl hcs kk => lcase_35 X hi hI rσ hP hO hS hl ⟨by omega, by omega⟩ (fun σ1 T1 P1 H1 locs1 hI1 r1 hP1 hO1 hS1 => kk σ1 T1 P1 o H1 locs1 ls cells slots (by omega) (by omega) hI1 r1 hP1 hO1 hS1 hl)
theorem lcs_37 (X : Lc p s m meth c b L xs D cI cQ cJ α qo) : LCs p l e s m below meth c b L xs D cI cQ cJ α qo Q 1363 := fun H locs cells slots ls o σ T P i hi hI rσ hP hO hS hl hcs kk => lcase_37 X hi hI rσ hP hO hS hl ⟨by omega, by omega⟩ (fun σ1 T1 P1 H1 locs1 hI1 r1 hP1 hO1 hS1 => kk σ1 T1 P1 o H1 locs1 ls cells slots (by omega) (by omega) hI1 r1 hP1 hO1 hS1 hl)
theorem lcs_38 (X : Lc p s m meth c b L xs D cI cQ cJ α qo) : LCs p l e s m below meth c b L xs D cI cQ cJ α qo Q 1436 := fun H locs cells slots ls o σ T P i hi hI rσ hP hO hS hl hcs kk => lcase_38 X hi hI rσ hP hO hS hl ⟨by omega, by omega⟩ (fun σ1 T1 P1 H1 locs1 hI1 r1 hP1 hO1 hS1 => kk σ1 T1 P1 o H1 locs1 ls cells slots (by omega) (by omega) hI1 r1 hP1 hO1 hS1 hl)
theorem and63 (x : Int32) : 0 ≤ (x &&& 63).toInt := by
  have h3 : ¬ (x &&& 63) < 0 := by
    intro q
    rw [Int32.lt_iff_toBitVec_slt] at q
    have e : ((x &&& 63).toBitVec).slt (0 : Int32).toBitVec = false := by
      show (x.toBitVec &&& 63#32).slt 0#32 = false
      rw [BitVec.slt_zero_eq_msb, BitVec.msb_and, show (63#32).msb = false from by decide, Bool.and_false]
    rw [e] at q
    cases q
  rw [Int32.lt_iff_toInt_lt, Int32.toInt_zero] at h3
  omega
set_option maxRecDepth 100000 in
theorem law_loop (X : Lc p s m meth c b L xs D cI cQ cJ α qo) (h36 : LCs p l e s m below meth c b L xs D cI cQ cJ α qo (lw_Z below #[Value.ref b] s) 1296) (h39 : LCs p l e s m below meth c b L xs D cI cQ cJ α qo (lw_Z below #[Value.ref b] s) 1461) :
    ∀ (n t : Nat), L + 6 ≤ 6 * t + n → 6 * t ≤ L + 5 → ∀ (H : Heap) (locs : List Loc) (cells slots : Nat) (ls : Array Slot) (o : Nat → Int64) (σ T P : Sg), cells ≤ 2000 + 1000 * t → slots ≤ 10000 + 10000 * t → Inv σ T P → RS σ → va_P D vwCl (WS cI cQ α σ) H → va_P D vwCl (oW qo cJ o) H → va_S (lA s) s.heap H locs → lv_has ls 8 [(0, .ref b), (1, .ref (α 45)), (2, .ref (α 85)), (3, .ref qo), (4, .int (nI (6 * t)))] →
      W p l e room_1 s m #[Value.ref b] below meth c H locs cells slots (lw_Z below #[Value.ref b] s) (F0 m 23 ls []) := by
  obtain ⟨⟨hx, hb, hr, hml, hown, hts, hX, hbl, hlocks, hgv⟩, hK, hN, hDw, hqo, hqs, hKJ, hL⟩ := id X
  intro n
  induction n with
  | zero => intro t h1 h2; omega
  | succ n ih =>
    intro t h1 h2 H locs cells slots ls o σ T P hc hs hI rσ hP hO hS hl
    refine lv_iload hx hb (show decode code 23 = .ok (.iload 4, 2) by decide +kernel) (lv_at hl 4 rfl) ?_
    refine lv_aload_n hx hb (show decode code 25 = .ok (.aload_n 0, 1) by decide +kernel) rfl (lv_at hl 0 rfl) ?_
    refine va_slen hx hb hX hbl (Nat.not_le.mpr hbl) hS (show decode code 26 = .ok (.arraylength, 1) by decide +kernel) ?_
    refine lv_bipush (v := 6) hx hb (show decode code 27 = .ok (.bipush 6, 2) by decide +kernel) (by decide) ?_
    refine lv_isub hx hb (show decode code 29 = .ok (.isub, 1) by decide +kernel) ?_
    have e6 : (Int32.ofNat L - 6).toInt = (L : Int) - 6 := by
      have h := nI_toInt (n := L) (by omega)
      rw [Int32.toInt_sub, show (Int32.ofNat L).toInt = (L : Int) from h, show (6 : Int32).toInt = 6 from rfl]
      exact Int.bmod_eq_of_le (by omega) (by omega)
    have ei : (nI (6 * t)).toInt = 6 * t := by rw [nI_toInt (by omega)]; omega
    have fin : W p l e room_1 s m #[Value.ref b] below meth c H locs cells slots (lw_Z below #[Value.ref b] s) (F0 m 1492 ls []) := by
      refine lv_iconst (v := 1) hx hb (show decode code 1492 = .ok (.iconst 1, 1) by decide +kernel) (by decide) ?_
      refine va_forget (fun q hq => hS.2.2 q hq) ?_
      refine W.widen (k := 601024) (n := 7293034) (by omega) (by omega) ?_
      exact lw_ret hx hb hr hlocks (show decode code 1493 = .ok (.ireturn, 1) by decide +kernel)
    refine lv_icmp_gt (tgt := 1492) hx hb (show decode code 30 = .ok (.if_icmp .gt 1462, 3) by decide +kernel) (by decide) (fun _ => fin) (fun hle => ?_)
    have hle2 : 6 * t + 6 ≤ L := by
      rw [Int32.lt_iff_toInt_lt, e6, ei] at hle
      omega
    have hcs : cells + 1000 ≤ room_1.cells ∧ slots + 10000 ≤ room_1.slots := ⟨by show cells + 1000 ≤ 601024; omega, by show slots + 10000 ≤ 7293034; omega⟩
    have next : ∀ (σ1 T1 P1 : Sg) (o1 : Nat → Int64) (H1 : Heap) (locs1 : List Loc) (ls1 : Array Slot) (cells1 slots1 : Nat), cells1 ≤ cells + 1000 → slots1 ≤ slots + 10000 → Inv σ1 T1 P1 → RS σ1 → va_P D vwCl (WS cI cQ α σ1) H1 → va_P D vwCl (oW qo cJ o1) H1 → va_S (lA s) s.heap H1 locs1 → lv_has ls1 8 [(0, .ref b), (1, .ref (α 45)), (2, .ref (α 85)), (3, .ref qo), (4, .int (nI (6 * t)))] → W p l e room_1 s m #[Value.ref b] below meth c H1 locs1 cells1 slots1 (lw_Z below #[Value.ref b] s) (F0 m 1486 ls1 []) := by
      intro σ1 T1 P1 o1 H1 locs1 ls1 cells1 slots1 hc1 hs1 hI1 rσ1 hP1 hO1 hS1 hl1
      refine lv_iinc (v := nI (6 * (t + 1))) (lv' := [(4, .int (nI (6 * (t + 1)))), (0, .ref b), (1, .ref (α 45)), (2, .ref (α 85)), (3, .ref qo)]) hx hb (show decode code 1486 = .ok (.iinc 4 6, 3) by decide +kernel) hl1 (k := 4) rfl ?_ (by decide) rfl (fun ls2 hl2 => ?_)
      · show Int32.ofNat (6 * t) + Int32.ofNat 6 = Int32.ofNat (6 * (t + 1))
        rw [← Int32.ofNat_add]
        rfl
      refine lv_goto (tgt := 23) hx hb (show decode code 1489 = .ok (.goto (-1466), 3) by decide +kernel) (by decide) ?_
      exact ih (t + 1) (by omega) (by omega) H1 locs1 cells1 slots1 ls2 o1 σ1 T1 P1 (by omega) (by omega) hI1 rσ1 hP1 hO1 hS1 (lv_sub hl2 [1, 2, 3, 4, 0] rfl)
    refine lv_aload_n hx hb (show decode code 33 = .ok (.aload_n 0, 1) by decide +kernel) rfl (lv_at hl 0 rfl) ?_
    refine lv_iload hx hb (show decode code 34 = .ok (.iload 4, 2) by decide +kernel) (lv_at hl 4 rfl) ?_
    refine va_sld hx hb hX hbl (Nat.not_le.mpr hbl) hS (show vp_in (nI (6 * t)) L from vp_in_nI (by omega) (by omega)) (show decode code 36 = .ok (.iaload, 1) by decide +kernel) ?_
    refine lv_bipush (v := 63) hx hb (show decode code 37 = .ok (.bipush 63, 2) by decide +kernel) (by decide) ?_
    refine lv_iand hx hb (show decode code 39 = .ok (.iand, 1) by decide +kernel) ?_
    generalize hv : xs (nI (6 * t)).toNatClampNeg &&& 63 = v
    have hv0 : 0 ≤ v.toInt := by rw [← hv]; exact and63 _
    by_cases h39b : 39 < v.toInt
    · refine lv_tableOut (tgt := 1486) hx hb (show decode code 40 = .ok (.tableswitch 1446 0 39 #[176, 201, 238, 275, 312, 349, 386, 423, 436, 449, 462, 499, 536, 561, 586, 611, 636, 649, 674, 699, 724, 749, 786, 823, 836, 897, 958, 971, 996, 1033, 1046, 1059, 1072, 1097, 1158, 1207, 1256, 1323, 1396, 1421], 176) by decide +kernel) (Or.inr h39b) (by decide) ?_
      exact next σ T P o H locs ls cells slots (by omega) (by omega) hI rσ hP hO hS hl
    · have go : ∀ (k pc : Nat) (off : Int), v.toInt = k → (#[176, 201, 238, 275, 312, 349, 386, 423, 436, 449, 462, 499, 536, 561, 586, 611, 636, 649, 674, 699, 724, 749, 786, 823, 836, 897, 958, 971, 996, 1033, 1046, 1059, 1072, 1097, 1158, 1207, 1256, 1323, 1396, 1421] : Array Int)[k]? = some off → (40 : Int) + off = (pc : Int) → LCs p l e s m below meth c b L xs D cI cQ cJ α qo (lw_Z below #[Value.ref b] s) pc → W p l e room_1 s m #[Value.ref b] below meth c H locs cells slots (lw_Z below #[Value.ref b] s) (F0 m 40 ls [.int v]) := by
        intro k pc off hk ho hp hC
        refine lv_tableIn (off := off) (tgt := pc) hx hb (show decode code 40 = .ok (.tableswitch 1446 0 39 #[176, 201, 238, 275, 312, 349, 386, 423, 436, 449, 462, 499, 536, 561, 586, 611, 636, 649, 674, 699, 724, 749, 786, 823, 836, 897, 958, 971, 996, 1033, 1046, 1059, 1072, 1097, 1158, 1207, 1256, 1323, 1396, 1421], 176) by decide +kernel) (by omega) h39b (by rw [hk]; exact ho) hp ?_
        exact hC H locs cells slots ls o σ T P (6 * t) (by omega) hI rσ hP hO hS hl hcs next
      rcases (show v.toInt = (0 : Nat) ∨ v.toInt = (1 : Nat) ∨ v.toInt = (2 : Nat) ∨ v.toInt = (3 : Nat) ∨ v.toInt = (4 : Nat) ∨ v.toInt = (5 : Nat) ∨ v.toInt = (6 : Nat) ∨ v.toInt = (7 : Nat) ∨ v.toInt = (8 : Nat) ∨ v.toInt = (9 : Nat) ∨ v.toInt = (10 : Nat) ∨ v.toInt = (11 : Nat) ∨ v.toInt = (12 : Nat) ∨ v.toInt = (13 : Nat) ∨ v.toInt = (14 : Nat) ∨ v.toInt = (15 : Nat) ∨ v.toInt = (16 : Nat) ∨ v.toInt = (17 : Nat) ∨ v.toInt = (18 : Nat) ∨ v.toInt = (19 : Nat) ∨ v.toInt = (20 : Nat) ∨ v.toInt = (21 : Nat) ∨ v.toInt = (22 : Nat) ∨ v.toInt = (23 : Nat) ∨ v.toInt = (24 : Nat) ∨ v.toInt = (25 : Nat) ∨ v.toInt = (26 : Nat) ∨ v.toInt = (27 : Nat) ∨ v.toInt = (28 : Nat) ∨ v.toInt = (29 : Nat) ∨ v.toInt = (30 : Nat) ∨ v.toInt = (31 : Nat) ∨ v.toInt = (32 : Nat) ∨ v.toInt = (33 : Nat) ∨ v.toInt = (34 : Nat) ∨ v.toInt = (35 : Nat) ∨ v.toInt = (36 : Nat) ∨ v.toInt = (37 : Nat) ∨ v.toInt = (38 : Nat) ∨ v.toInt = (39 : Nat) by omega) with hk | hk | hk | hk | hk | hk | hk | hk | hk | hk | hk | hk | hk | hk | hk | hk | hk | hk | hk | hk | hk | hk | hk | hk | hk | hk | hk | hk | hk | hk | hk | hk | hk | hk | hk | hk | hk | hk | hk | hk
      · exact go 0 216 176 hk rfl (by decide) (lcs_0 X)
      · exact go 1 241 201 hk rfl (by decide) (lcs_1 X)
      · exact go 2 278 238 hk rfl (by decide) (lcs_2 X)
      · exact go 3 315 275 hk rfl (by decide) (lcs_3 X)
      · exact go 4 352 312 hk rfl (by decide) (lcs_4 X)
      · exact go 5 389 349 hk rfl (by decide) (lcs_5 X)
      · exact go 6 426 386 hk rfl (by decide) (lcs_6 X)
      · exact go 7 463 423 hk rfl (by decide) (lcs_7 X)
      · exact go 8 476 436 hk rfl (by decide) (lcs_8 X)
      · exact go 9 489 449 hk rfl (by decide) (lcs_9 X)
      · exact go 10 502 462 hk rfl (by decide) (lcs_10 X)
      · exact go 11 539 499 hk rfl (by decide) (lcs_11 X)
      · exact go 12 576 536 hk rfl (by decide) (lcs_12 X)
      · exact go 13 601 561 hk rfl (by decide) (lcs_13 X)
      · exact go 14 626 586 hk rfl (by decide) (lcs_14 X)
      · exact go 15 651 611 hk rfl (by decide) (lcs_15 X)
      · exact go 16 676 636 hk rfl (by decide) (lcs_16 X)
      · exact go 17 689 649 hk rfl (by decide) (lcs_17 X)
      · exact go 18 714 674 hk rfl (by decide) (lcs_18 X)
      · exact go 19 739 699 hk rfl (by decide) (lcs_19 X)
      · exact go 20 764 724 hk rfl (by decide) (lcs_20 X)
      · exact go 21 789 749 hk rfl (by decide) (lcs_21 X)
      · exact go 22 826 786 hk rfl (by decide) (lcs_22 X)
      · exact go 23 863 823 hk rfl (by decide) (lcs_23 X)
      · exact go 24 876 836 hk rfl (by decide) (lcs_24 X)
      · exact go 25 937 897 hk rfl (by decide) (lcs_25 X)
      · exact go 26 998 958 hk rfl (by decide) (lcs_26 X)
      · exact go 27 1011 971 hk rfl (by decide) (lcs_27 X)
      · exact go 28 1036 996 hk rfl (by decide) (lcs_28 X)
      · exact go 29 1073 1033 hk rfl (by decide) (lcs_29 X)
      · exact go 30 1086 1046 hk rfl (by decide) (lcs_30 X)
      · exact go 31 1099 1059 hk rfl (by decide) (lcs_31 X)
      · exact go 32 1112 1072 hk rfl (by decide) (lcs_32 X)
      · exact go 33 1137 1097 hk rfl (by decide) (lcs_33 X)
      · exact go 34 1198 1158 hk rfl (by decide) (lcs_34 X)
      · exact go 35 1247 1207 hk rfl (by decide) (lcs_35 X)
      · exact go 36 1296 1256 hk rfl (by decide) h36
      · exact go 37 1363 1323 hk rfl (by decide) (lcs_37 X)
      · exact go 38 1436 1396 hk rfl (by decide) (lcs_38 X)
      · exact go 39 1461 1421 hk rfl (by decide) h39
end LOOP
