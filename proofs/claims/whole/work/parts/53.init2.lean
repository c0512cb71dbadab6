/-! CONSTRUCTORS without loops (written by geninit.py) -/
def R_0 : RT := fun cI cQ h β => [(h, .inr (0, [.int 0, .int 0, .int 0, .int 0]))]
def rk_0 : Room := { frames := 1, cells := 0, slots := 0, locals := 20 }
set_option maxHeartbeats 4000000 in
set_option maxRecDepth 100000 in
theorem ck_0 (l : Launch) : CIn l ⟨RX0, "<init>", "()V"⟩ prog_2_method_1_code 1 rk_0 0 [.int 0, .int 0, .int 0, .int 0] R_0 := by
  refine ci_of (by decide) (by decide) ?_
  intro p e s m args below meth c D cI cQ A h0 ls Q X hin hl hP hD fin
  have hin : meth.name = "<init>" := hin
  have hS : va_S A s.heap s.heap [] := va_S.rf
  refine lv_aload_n X.1 X.2.1 (show decode prog_2_method_1_code 0 = .ok (.aload_n 0, 1) by decide +kernel) rfl (lv_at hl 0 rfl) ?_
  refine ci_obj X (gd_t (mt1 179 rfl) rfl) (show decode prog_2_method_1_code 1 = .ok (.invokespecial 5, 3) by decide +kernel) ⟨Nat.le_of_ble_eq_true rfl, Nat.le_of_ble_eq_true rfl⟩ hl.1 ?_
  refine lv_aload_n X.1 X.2.1 (show decode prog_2_method_1_code 4 = .ok (.aload_n 0, 1) by decide +kernel) rfl (lv_at hl 0 rfl) ?_
  refine lv_iconst (v := 0) X.1 X.2.1 (show decode prog_2_method_1_code 5 = .ok (.iconst 0, 1) by decide +kernel) (by decide) ?_
  refine ci_put X (k := 0) (ty := tyX0 0) rfl (by decide) hP hD hS (gd_t (mt1 180 rfl) rfl) rfl hin (tyX0_ok 0 (by decide)) rfl rfl (Nat.le_of_ble_eq_true rfl) (show decode prog_2_method_1_code 6 = .ok (.putfield 11, 3) by decide +kernel) fun H locs hP hD hS => ?_
  have hP : va_P D vwCl ((h0, .inr (0, [.int 0, .int 0, .int 0, .int 0])) :: ([])) H := hP
  have hD : va_D A ((h0, .inr (0, [.int 0, .int 0, .int 0, .int 0])) :: ([])) := hD
  refine lv_aload_n X.1 X.2.1 (show decode prog_2_method_1_code 9 = .ok (.aload_n 0, 1) by decide +kernel) rfl (lv_at hl 0 rfl) ?_
  refine lv_iconst (v := 0) X.1 X.2.1 (show decode prog_2_method_1_code 10 = .ok (.iconst 0, 1) by decide +kernel) (by decide) ?_
  refine ci_put X (k := 1) (ty := tyX0 1) rfl (by decide) hP hD hS (gd_t (mt1 182 rfl) rfl) rfl hin (tyX0_ok 1 (by decide)) rfl rfl (Nat.le_of_ble_eq_true rfl) (show decode prog_2_method_1_code 11 = .ok (.putfield 15, 3) by decide +kernel) fun H locs hP hD hS => ?_
  have hP : va_P D vwCl ((h0, .inr (0, [.int 0, .int 0, .int 0, .int 0])) :: ([])) H := hP
  have hD : va_D A ((h0, .inr (0, [.int 0, .int 0, .int 0, .int 0])) :: ([])) := hD
  refine lv_aload_n X.1 X.2.1 (show decode prog_2_method_1_code 14 = .ok (.aload_n 0, 1) by decide +kernel) rfl (lv_at hl 0 rfl) ?_
  refine lv_iconst (v := 0) X.1 X.2.1 (show decode prog_2_method_1_code 15 = .ok (.iconst 0, 1) by decide +kernel) (by decide) ?_
  refine ci_put X (k := 2) (ty := tyX0 2) rfl (by decide) hP hD hS (gd_t (mt1 184 rfl) rfl) rfl hin (tyX0_ok 2 (by decide)) rfl rfl (Nat.le_of_ble_eq_true rfl) (show decode prog_2_method_1_code 16 = .ok (.putfield 18, 3) by decide +kernel) fun H locs hP hD hS => ?_
  have hP : va_P D vwCl ((h0, .inr (0, [.int 0, .int 0, .int 0, .int 0])) :: ([])) H := hP
  have hD : va_D A ((h0, .inr (0, [.int 0, .int 0, .int 0, .int 0])) :: ([])) := hD
  refine lv_aload_n X.1 X.2.1 (show decode prog_2_method_1_code 19 = .ok (.aload_n 0, 1) by decide +kernel) rfl (lv_at hl 0 rfl) ?_
  refine lv_iconst (v := 0) X.1 X.2.1 (show decode prog_2_method_1_code 20 = .ok (.iconst 0, 1) by decide +kernel) (by decide) ?_
  refine ci_put X (k := 3) (ty := tyX0 3) rfl (by decide) hP hD hS (gd_t (mt1 185 rfl) rfl) rfl hin (tyX0_ok 3 (by decide)) rfl rfl (Nat.le_of_ble_eq_true rfl) (show decode prog_2_method_1_code 21 = .ok (.putfield 21, 3) by decide +kernel) fun H locs hP hD hS => ?_
  have hP : va_P D vwCl ((h0, .inr (0, [.int 0, .int 0, .int 0, .int 0])) :: ([])) H := hP
  have hD : va_D A ((h0, .inr (0, [.int 0, .int 0, .int 0, .int 0])) :: ([])) := hD
  exact fin (fun n => ([] : List Nat).getD n 0) 24 _ _ _ _ _ (show decode prog_2_method_1_code 24 = .ok (.return_, 1) by decide +kernel) (Nat.le_of_ble_eq_true rfl) (Nat.le_of_ble_eq_true rfl) hP hD hS
def R_3 : RT := fun cI cQ h β => [(h, .inr (3, [.int 0, .ref (β 0), .ref (β 1), .int 0, .ref (β 2), .ref (β 3), .ref (β 4), .ref (β 5), .ref (β 6), .int 1, .int 0, .int 255, .ref (β 7)]))] ++ [(β 0, .inl (cI, 5, .inl (fun _ => 0)))] ++ [(β 1, .inl (cI, 25, .inl (fun _ => 0)))] ++ [(β 2, .inl (cI, 8, .inl (fun _ => 0)))] ++ [(β 3, .inl (cI, 8, .inl (fun _ => 0)))] ++ [(β 4, .inl (cI, 8, .inl (fun _ => 0)))] ++ [(β 5, .inl (cI, 40, .inl (fun _ => 0)))] ++ [(β 6, .inl (cI, 8, .inl (fun _ => 0)))] ++ [(β 7, .inl (cI, 5, .inl (fun _ => 0)))]
def rk_3 : Room := { frames := 1, cells := 8, slots := 107, locals := 20 }
set_option maxHeartbeats 4000000 in
set_option maxRecDepth 100000 in
theorem ck_3 (l : Launch) : CIn l ⟨RX3, "<init>", "()V"⟩ prog_5_method_1_code 1 rk_3 3 [.int 0, .null, .null, .int 0, .null, .null, .null, .null, .null, .int 0, .int 0, .int 0, .null] R_3 := by
  refine ci_of (by decide) (by decide) ?_
  intro p e s m args below meth c D cI cQ A h0 ls Q X hin hl hP hD fin
  have hin : meth.name = "<init>" := hin
  have hS : va_S A s.heap s.heap [] := va_S.rf
  refine lv_aload_n X.1 X.2.1 (show decode prog_5_method_1_code 0 = .ok (.aload_n 0, 1) by decide +kernel) rfl (lv_at hl 0 rfl) ?_
  refine ci_obj X (gd_t (mt1 32 rfl) rfl) (show decode prog_5_method_1_code 1 = .ok (.invokespecial 3, 3) by decide +kernel) ⟨Nat.le_of_ble_eq_true rfl, Nat.le_of_ble_eq_true rfl⟩ hl.1 ?_
  refine lv_aload_n X.1 X.2.1 (show decode prog_5_method_1_code 4 = .ok (.aload_n 0, 1) by decide +kernel) rfl (lv_at hl 0 rfl) ?_
  refine lv_iconst (v := 0) X.1 X.2.1 (show decode prog_5_method_1_code 5 = .ok (.iconst 0, 1) by decide +kernel) (by decide) ?_
  refine ci_put X (k := 0) (ty := tyX3 0) rfl (by decide) hP hD hS (gd_t (mt1 33 rfl) rfl) rfl hin (tyX3_ok 0 (by decide)) rfl rfl (Nat.le_of_ble_eq_true rfl) (show decode prog_5_method_1_code 6 = .ok (.putfield 9, 3) by decide +kernel) fun H locs hP hD hS => ?_
  have hP : va_P D vwCl ((h0, .inr (3, [.int 0, .null, .null, .int 0, .null, .null, .null, .null, .null, .int 0, .int 0, .int 0, .null])) :: ([])) H := hP
  have hD : va_D A ((h0, .inr (3, [.int 0, .null, .null, .int 0, .null, .null, .null, .null, .null, .int 0, .int 0, .int 0, .null])) :: ([])) := hD
  refine lv_aload_n X.1 X.2.1 (show decode prog_5_method_1_code 9 = .ok (.aload_n 0, 1) by decide +kernel) rfl (lv_at hl 0 rfl) ?_
  refine lv_iconst (v := 5) X.1 X.2.1 (show decode prog_5_method_1_code 10 = .ok (.iconst 5, 1) by decide +kernel) (by decide) ?_
  refine ci_int X (N := 5) hP hD hS (by decide) (by decide) (by decide) (Nat.le_of_ble_eq_true rfl) (Nat.le_of_ble_eq_true rfl) (show decode prog_5_method_1_code 11 = .ok (.newarray .int, 2) by decide +kernel) fun q0 H hP hD hS => ?_
  have hP : va_P D vwCl ((h0, .inr (3, [.int 0, .null, .null, .int 0, .null, .null, .null, .null, .null, .int 0, .int 0, .int 0, .null])) :: ([] ++ [(q0, .inl (cI, 5, .inl (fun _ => 0)))])) H := hP
  have hD : va_D A ((h0, .inr (3, [.int 0, .null, .null, .int 0, .null, .null, .null, .null, .null, .int 0, .int 0, .int 0, .null])) :: ([] ++ [(q0, .inl (cI, 5, .inl (fun _ => 0)))])) := hD
  refine ci_put X (k := 1) (ty := tyX3 1) rfl (by decide) hP hD hS (gd_t (mt1 37 rfl) rfl) rfl hin (tyX3_ok 1 (by decide)) rfl rfl (Nat.le_of_ble_eq_true rfl) (show decode prog_5_method_1_code 13 = .ok (.putfield 15, 3) by decide +kernel) fun H locs hP hD hS => ?_
  have hP : va_P D vwCl ((h0, .inr (3, [.int 0, .ref q0, .null, .int 0, .null, .null, .null, .null, .null, .int 0, .int 0, .int 0, .null])) :: ([] ++ [(q0, .inl (cI, 5, .inl (fun _ => 0)))])) H := hP
  have hD : va_D A ((h0, .inr (3, [.int 0, .ref q0, .null, .int 0, .null, .null, .null, .null, .null, .int 0, .int 0, .int 0, .null])) :: ([] ++ [(q0, .inl (cI, 5, .inl (fun _ => 0)))])) := hD
  refine lv_aload_n X.1 X.2.1 (show decode prog_5_method_1_code 16 = .ok (.aload_n 0, 1) by decide +kernel) rfl (lv_at hl 0 rfl) ?_
  refine lv_bipush (v := 25) X.1 X.2.1 (show decode prog_5_method_1_code 17 = .ok (.bipush 25, 2) by decide +kernel) (by decide) ?_
  refine ci_int X (N := 25) hP hD hS (by decide) (by decide) (by decide) (Nat.le_of_ble_eq_true rfl) (Nat.le_of_ble_eq_true rfl) (show decode prog_5_method_1_code 19 = .ok (.newarray .int, 2) by decide +kernel) fun q1 H hP hD hS => ?_
  have hP : va_P D vwCl ((h0, .inr (3, [.int 0, .ref q0, .null, .int 0, .null, .null, .null, .null, .null, .int 0, .int 0, .int 0, .null])) :: ([] ++ [(q0, .inl (cI, 5, .inl (fun _ => 0)))] ++ [(q1, .inl (cI, 25, .inl (fun _ => 0)))])) H := hP
  have hD : va_D A ((h0, .inr (3, [.int 0, .ref q0, .null, .int 0, .null, .null, .null, .null, .null, .int 0, .int 0, .int 0, .null])) :: ([] ++ [(q0, .inl (cI, 5, .inl (fun _ => 0)))] ++ [(q1, .inl (cI, 25, .inl (fun _ => 0)))])) := hD
  refine ci_put X (k := 2) (ty := tyX3 2) rfl (by decide) hP hD hS (gd_t (mt1 41 rfl) rfl) rfl hin (tyX3_ok 2 (by decide)) rfl rfl (Nat.le_of_ble_eq_true rfl) (show decode prog_5_method_1_code 21 = .ok (.putfield 19, 3) by decide +kernel) fun H locs hP hD hS => ?_
  have hP : va_P D vwCl ((h0, .inr (3, [.int 0, .ref q0, .ref q1, .int 0, .null, .null, .null, .null, .null, .int 0, .int 0, .int 0, .null])) :: ([] ++ [(q0, .inl (cI, 5, .inl (fun _ => 0)))] ++ [(q1, .inl (cI, 25, .inl (fun _ => 0)))])) H := hP
  have hD : va_D A ((h0, .inr (3, [.int 0, .ref q0, .ref q1, .int 0, .null, .null, .null, .null, .null, .int 0, .int 0, .int 0, .null])) :: ([] ++ [(q0, .inl (cI, 5, .inl (fun _ => 0)))] ++ [(q1, .inl (cI, 25, .inl (fun _ => 0)))])) := hD
  refine lv_aload_n X.1 X.2.1 (show decode prog_5_method_1_code 24 = .ok (.aload_n 0, 1) by decide +kernel) rfl (lv_at hl 0 rfl) ?_
  refine lv_iconst (v := 0) X.1 X.2.1 (show decode prog_5_method_1_code 25 = .ok (.iconst 0, 1) by decide +kernel) (by decide) ?_
  refine ci_put X (k := 3) (ty := tyX3 3) rfl (by decide) hP hD hS (gd_t (mt1 42 rfl) rfl) rfl hin (tyX3_ok 3 (by decide)) rfl rfl (Nat.le_of_ble_eq_true rfl) (show decode prog_5_method_1_code 26 = .ok (.putfield 22, 3) by decide +kernel) fun H locs hP hD hS => ?_
  have hP : va_P D vwCl ((h0, .inr (3, [.int 0, .ref q0, .ref q1, .int 0, .null, .null, .null, .null, .null, .int 0, .int 0, .int 0, .null])) :: ([] ++ [(q0, .inl (cI, 5, .inl (fun _ => 0)))] ++ [(q1, .inl (cI, 25, .inl (fun _ => 0)))])) H := hP
  have hD : va_D A ((h0, .inr (3, [.int 0, .ref q0, .ref q1, .int 0, .null, .null, .null, .null, .null, .int 0, .int 0, .int 0, .null])) :: ([] ++ [(q0, .inl (cI, 5, .inl (fun _ => 0)))] ++ [(q1, .inl (cI, 25, .inl (fun _ => 0)))])) := hD
  refine lv_aload_n X.1 X.2.1 (show decode prog_5_method_1_code 29 = .ok (.aload_n 0, 1) by decide +kernel) rfl (lv_at hl 0 rfl) ?_
  refine lv_bipush (v := 8) X.1 X.2.1 (show decode prog_5_method_1_code 30 = .ok (.bipush 8, 2) by decide +kernel) (by decide) ?_
  refine ci_int X (N := 8) hP hD hS (by decide) (by decide) (by decide) (Nat.le_of_ble_eq_true rfl) (Nat.le_of_ble_eq_true rfl) (show decode prog_5_method_1_code 32 = .ok (.newarray .int, 2) by decide +kernel) fun q2 H hP hD hS => ?_
  have hP : va_P D vwCl ((h0, .inr (3, [.int 0, .ref q0, .ref q1, .int 0, .null, .null, .null, .null, .null, .int 0, .int 0, .int 0, .null])) :: ([] ++ [(q0, .inl (cI, 5, .inl (fun _ => 0)))] ++ [(q1, .inl (cI, 25, .inl (fun _ => 0)))] ++ [(q2, .inl (cI, 8, .inl (fun _ => 0)))])) H := hP
  have hD : va_D A ((h0, .inr (3, [.int 0, .ref q0, .ref q1, .int 0, .null, .null, .null, .null, .null, .int 0, .int 0, .int 0, .null])) :: ([] ++ [(q0, .inl (cI, 5, .inl (fun _ => 0)))] ++ [(q1, .inl (cI, 25, .inl (fun _ => 0)))] ++ [(q2, .inl (cI, 8, .inl (fun _ => 0)))])) := hD
  refine ci_put X (k := 4) (ty := tyX3 4) rfl (by decide) hP hD hS (gd_t (mt1 47 rfl) rfl) rfl hin (tyX3_ok 4 (by decide)) rfl rfl (Nat.le_of_ble_eq_true rfl) (show decode prog_5_method_1_code 34 = .ok (.putfield 25, 3) by decide +kernel) fun H locs hP hD hS => ?_
  have hP : va_P D vwCl ((h0, .inr (3, [.int 0, .ref q0, .ref q1, .int 0, .ref q2, .null, .null, .null, .null, .int 0, .int 0, .int 0, .null])) :: ([] ++ [(q0, .inl (cI, 5, .inl (fun _ => 0)))] ++ [(q1, .inl (cI, 25, .inl (fun _ => 0)))] ++ [(q2, .inl (cI, 8, .inl (fun _ => 0)))])) H := hP
  have hD : va_D A ((h0, .inr (3, [.int 0, .ref q0, .ref q1, .int 0, .ref q2, .null, .null, .null, .null, .int 0, .int 0, .int 0, .null])) :: ([] ++ [(q0, .inl (cI, 5, .inl (fun _ => 0)))] ++ [(q1, .inl (cI, 25, .inl (fun _ => 0)))] ++ [(q2, .inl (cI, 8, .inl (fun _ => 0)))])) := hD
  refine lv_aload_n X.1 X.2.1 (show decode prog_5_method_1_code 37 = .ok (.aload_n 0, 1) by decide +kernel) rfl (lv_at hl 0 rfl) ?_
  refine lv_bipush (v := 8) X.1 X.2.1 (show decode prog_5_method_1_code 38 = .ok (.bipush 8, 2) by decide +kernel) (by decide) ?_
  refine ci_int X (N := 8) hP hD hS (by decide) (by decide) (by decide) (Nat.le_of_ble_eq_true rfl) (Nat.le_of_ble_eq_true rfl) (show decode prog_5_method_1_code 40 = .ok (.newarray .int, 2) by decide +kernel) fun q3 H hP hD hS => ?_
  have hP : va_P D vwCl ((h0, .inr (3, [.int 0, .ref q0, .ref q1, .int 0, .ref q2, .null, .null, .null, .null, .int 0, .int 0, .int 0, .null])) :: ([] ++ [(q0, .inl (cI, 5, .inl (fun _ => 0)))] ++ [(q1, .inl (cI, 25, .inl (fun _ => 0)))] ++ [(q2, .inl (cI, 8, .inl (fun _ => 0)))] ++ [(q3, .inl (cI, 8, .inl (fun _ => 0)))])) H := hP
  have hD : va_D A ((h0, .inr (3, [.int 0, .ref q0, .ref q1, .int 0, .ref q2, .null, .null, .null, .null, .int 0, .int 0, .int 0, .null])) :: ([] ++ [(q0, .inl (cI, 5, .inl (fun _ => 0)))] ++ [(q1, .inl (cI, 25, .inl (fun _ => 0)))] ++ [(q2, .inl (cI, 8, .inl (fun _ => 0)))] ++ [(q3, .inl (cI, 8, .inl (fun _ => 0)))])) := hD
  refine ci_put X (k := 5) (ty := tyX3 5) rfl (by decide) hP hD hS (gd_t (mt1 51 rfl) rfl) rfl hin (tyX3_ok 5 (by decide)) rfl rfl (Nat.le_of_ble_eq_true rfl) (show decode prog_5_method_1_code 42 = .ok (.putfield 28, 3) by decide +kernel) fun H locs hP hD hS => ?_
  have hP : va_P D vwCl ((h0, .inr (3, [.int 0, .ref q0, .ref q1, .int 0, .ref q2, .ref q3, .null, .null, .null, .int 0, .int 0, .int 0, .null])) :: ([] ++ [(q0, .inl (cI, 5, .inl (fun _ => 0)))] ++ [(q1, .inl (cI, 25, .inl (fun _ => 0)))] ++ [(q2, .inl (cI, 8, .inl (fun _ => 0)))] ++ [(q3, .inl (cI, 8, .inl (fun _ => 0)))])) H := hP
  have hD : va_D A ((h0, .inr (3, [.int 0, .ref q0, .ref q1, .int 0, .ref q2, .ref q3, .null, .null, .null, .int 0, .int 0, .int 0, .null])) :: ([] ++ [(q0, .inl (cI, 5, .inl (fun _ => 0)))] ++ [(q1, .inl (cI, 25, .inl (fun _ => 0)))] ++ [(q2, .inl (cI, 8, .inl (fun _ => 0)))] ++ [(q3, .inl (cI, 8, .inl (fun _ => 0)))])) := hD
  refine lv_aload_n X.1 X.2.1 (show decode prog_5_method_1_code 45 = .ok (.aload_n 0, 1) by decide +kernel) rfl (lv_at hl 0 rfl) ?_
  refine lv_bipush (v := 8) X.1 X.2.1 (show decode prog_5_method_1_code 46 = .ok (.bipush 8, 2) by decide +kernel) (by decide) ?_
  refine ci_int X (N := 8) hP hD hS (by decide) (by decide) (by decide) (Nat.le_of_ble_eq_true rfl) (Nat.le_of_ble_eq_true rfl) (show decode prog_5_method_1_code 48 = .ok (.newarray .int, 2) by decide +kernel) fun q4 H hP hD hS => ?_
  have hP : va_P D vwCl ((h0, .inr (3, [.int 0, .ref q0, .ref q1, .int 0, .ref q2, .ref q3, .null, .null, .null, .int 0, .int 0, .int 0, .null])) :: ([] ++ [(q0, .inl (cI, 5, .inl (fun _ => 0)))] ++ [(q1, .inl (cI, 25, .inl (fun _ => 0)))] ++ [(q2, .inl (cI, 8, .inl (fun _ => 0)))] ++ [(q3, .inl (cI, 8, .inl (fun _ => 0)))] ++ [(q4, .inl (cI, 8, .inl (fun _ => 0)))])) H := hP
  have hD : va_D A ((h0, .inr (3, [.int 0, .ref q0, .ref q1, .int 0, .ref q2, .ref q3, .null, .null, .null, .int 0, .int 0, .int 0, .null])) :: ([] ++ [(q0, .inl (cI, 5, .inl (fun _ => 0)))] ++ [(q1, .inl (cI, 25, .inl (fun _ => 0)))] ++ [(q2, .inl (cI, 8, .inl (fun _ => 0)))] ++ [(q3, .inl (cI, 8, .inl (fun _ => 0)))] ++ [(q4, .inl (cI, 8, .inl (fun _ => 0)))])) := hD
  refine ci_put X (k := 6) (ty := tyX3 6) rfl (by decide) hP hD hS (gd_t (mt1 54 rfl) rfl) rfl hin (tyX3_ok 6 (by decide)) rfl rfl (Nat.le_of_ble_eq_true rfl) (show decode prog_5_method_1_code 50 = .ok (.putfield 31, 3) by decide +kernel) fun H locs hP hD hS => ?_
  have hP : va_P D vwCl ((h0, .inr (3, [.int 0, .ref q0, .ref q1, .int 0, .ref q2, .ref q3, .ref q4, .null, .null, .int 0, .int 0, .int 0, .null])) :: ([] ++ [(q0, .inl (cI, 5, .inl (fun _ => 0)))] ++ [(q1, .inl (cI, 25, .inl (fun _ => 0)))] ++ [(q2, .inl (cI, 8, .inl (fun _ => 0)))] ++ [(q3, .inl (cI, 8, .inl (fun _ => 0)))] ++ [(q4, .inl (cI, 8, .inl (fun _ => 0)))])) H := hP
  have hD : va_D A ((h0, .inr (3, [.int 0, .ref q0, .ref q1, .int 0, .ref q2, .ref q3, .ref q4, .null, .null, .int 0, .int 0, .int 0, .null])) :: ([] ++ [(q0, .inl (cI, 5, .inl (fun _ => 0)))] ++ [(q1, .inl (cI, 25, .inl (fun _ => 0)))] ++ [(q2, .inl (cI, 8, .inl (fun _ => 0)))] ++ [(q3, .inl (cI, 8, .inl (fun _ => 0)))] ++ [(q4, .inl (cI, 8, .inl (fun _ => 0)))])) := hD
  refine lv_aload_n X.1 X.2.1 (show decode prog_5_method_1_code 53 = .ok (.aload_n 0, 1) by decide +kernel) rfl (lv_at hl 0 rfl) ?_
  refine lv_bipush (v := 40) X.1 X.2.1 (show decode prog_5_method_1_code 54 = .ok (.bipush 40, 2) by decide +kernel) (by decide) ?_
  refine ci_int X (N := 40) hP hD hS (by decide) (by decide) (by decide) (Nat.le_of_ble_eq_true rfl) (Nat.le_of_ble_eq_true rfl) (show decode prog_5_method_1_code 56 = .ok (.newarray .int, 2) by decide +kernel) fun q5 H hP hD hS => ?_
  have hP : va_P D vwCl ((h0, .inr (3, [.int 0, .ref q0, .ref q1, .int 0, .ref q2, .ref q3, .ref q4, .null, .null, .int 0, .int 0, .int 0, .null])) :: ([] ++ [(q0, .inl (cI, 5, .inl (fun _ => 0)))] ++ [(q1, .inl (cI, 25, .inl (fun _ => 0)))] ++ [(q2, .inl (cI, 8, .inl (fun _ => 0)))] ++ [(q3, .inl (cI, 8, .inl (fun _ => 0)))] ++ [(q4, .inl (cI, 8, .inl (fun _ => 0)))] ++ [(q5, .inl (cI, 40, .inl (fun _ => 0)))])) H := hP
  have hD : va_D A ((h0, .inr (3, [.int 0, .ref q0, .ref q1, .int 0, .ref q2, .ref q3, .ref q4, .null, .null, .int 0, .int 0, .int 0, .null])) :: ([] ++ [(q0, .inl (cI, 5, .inl (fun _ => 0)))] ++ [(q1, .inl (cI, 25, .inl (fun _ => 0)))] ++ [(q2, .inl (cI, 8, .inl (fun _ => 0)))] ++ [(q3, .inl (cI, 8, .inl (fun _ => 0)))] ++ [(q4, .inl (cI, 8, .inl (fun _ => 0)))] ++ [(q5, .inl (cI, 40, .inl (fun _ => 0)))])) := hD
  refine ci_put X (k := 7) (ty := tyX3 7) rfl (by decide) hP hD hS (gd_t (mt1 57 rfl) rfl) rfl hin (tyX3_ok 7 (by decide)) rfl rfl (Nat.le_of_ble_eq_true rfl) (show decode prog_5_method_1_code 58 = .ok (.putfield 34, 3) by decide +kernel) fun H locs hP hD hS => ?_
  have hP : va_P D vwCl ((h0, .inr (3, [.int 0, .ref q0, .ref q1, .int 0, .ref q2, .ref q3, .ref q4, .ref q5, .null, .int 0, .int 0, .int 0, .null])) :: ([] ++ [(q0, .inl (cI, 5, .inl (fun _ => 0)))] ++ [(q1, .inl (cI, 25, .inl (fun _ => 0)))] ++ [(q2, .inl (cI, 8, .inl (fun _ => 0)))] ++ [(q3, .inl (cI, 8, .inl (fun _ => 0)))] ++ [(q4, .inl (cI, 8, .inl (fun _ => 0)))] ++ [(q5, .inl (cI, 40, .inl (fun _ => 0)))])) H := hP
  have hD : va_D A ((h0, .inr (3, [.int 0, .ref q0, .ref q1, .int 0, .ref q2, .ref q3, .ref q4, .ref q5, .null, .int 0, .int 0, .int 0, .null])) :: ([] ++ [(q0, .inl (cI, 5, .inl (fun _ => 0)))] ++ [(q1, .inl (cI, 25, .inl (fun _ => 0)))] ++ [(q2, .inl (cI, 8, .inl (fun _ => 0)))] ++ [(q3, .inl (cI, 8, .inl (fun _ => 0)))] ++ [(q4, .inl (cI, 8, .inl (fun _ => 0)))] ++ [(q5, .inl (cI, 40, .inl (fun _ => 0)))])) := hD
  refine lv_aload_n X.1 X.2.1 (show decode prog_5_method_1_code 61 = .ok (.aload_n 0, 1) by decide +kernel) rfl (lv_at hl 0 rfl) ?_
  refine lv_bipush (v := 8) X.1 X.2.1 (show decode prog_5_method_1_code 62 = .ok (.bipush 8, 2) by decide +kernel) (by decide) ?_
  refine ci_int X (N := 8) hP hD hS (by decide) (by decide) (by decide) (Nat.le_of_ble_eq_true rfl) (Nat.le_of_ble_eq_true rfl) (show decode prog_5_method_1_code 64 = .ok (.newarray .int, 2) by decide +kernel) fun q6 H hP hD hS => ?_
  have hP : va_P D vwCl ((h0, .inr (3, [.int 0, .ref q0, .ref q1, .int 0, .ref q2, .ref q3, .ref q4, .ref q5, .null, .int 0, .int 0, .int 0, .null])) :: ([] ++ [(q0, .inl (cI, 5, .inl (fun _ => 0)))] ++ [(q1, .inl (cI, 25, .inl (fun _ => 0)))] ++ [(q2, .inl (cI, 8, .inl (fun _ => 0)))] ++ [(q3, .inl (cI, 8, .inl (fun _ => 0)))] ++ [(q4, .inl (cI, 8, .inl (fun _ => 0)))] ++ [(q5, .inl (cI, 40, .inl (fun _ => 0)))] ++ [(q6, .inl (cI, 8, .inl (fun _ => 0)))])) H := hP
  have hD : va_D A ((h0, .inr (3, [.int 0, .ref q0, .ref q1, .int 0, .ref q2, .ref q3, .ref q4, .ref q5, .null, .int 0, .int 0, .int 0, .null])) :: ([] ++ [(q0, .inl (cI, 5, .inl (fun _ => 0)))] ++ [(q1, .inl (cI, 25, .inl (fun _ => 0)))] ++ [(q2, .inl (cI, 8, .inl (fun _ => 0)))] ++ [(q3, .inl (cI, 8, .inl (fun _ => 0)))] ++ [(q4, .inl (cI, 8, .inl (fun _ => 0)))] ++ [(q5, .inl (cI, 40, .inl (fun _ => 0)))] ++ [(q6, .inl (cI, 8, .inl (fun _ => 0)))])) := hD
  refine ci_put X (k := 8) (ty := tyX3 8) rfl (by decide) hP hD hS (gd_t (mt1 59 rfl) rfl) rfl hin (tyX3_ok 8 (by decide)) rfl rfl (Nat.le_of_ble_eq_true rfl) (show decode prog_5_method_1_code 66 = .ok (.putfield 37, 3) by decide +kernel) fun H locs hP hD hS => ?_
  have hP : va_P D vwCl ((h0, .inr (3, [.int 0, .ref q0, .ref q1, .int 0, .ref q2, .ref q3, .ref q4, .ref q5, .ref q6, .int 0, .int 0, .int 0, .null])) :: ([] ++ [(q0, .inl (cI, 5, .inl (fun _ => 0)))] ++ [(q1, .inl (cI, 25, .inl (fun _ => 0)))] ++ [(q2, .inl (cI, 8, .inl (fun _ => 0)))] ++ [(q3, .inl (cI, 8, .inl (fun _ => 0)))] ++ [(q4, .inl (cI, 8, .inl (fun _ => 0)))] ++ [(q5, .inl (cI, 40, .inl (fun _ => 0)))] ++ [(q6, .inl (cI, 8, .inl (fun _ => 0)))])) H := hP
  have hD : va_D A ((h0, .inr (3, [.int 0, .ref q0, .ref q1, .int 0, .ref q2, .ref q3, .ref q4, .ref q5, .ref q6, .int 0, .int 0, .int 0, .null])) :: ([] ++ [(q0, .inl (cI, 5, .inl (fun _ => 0)))] ++ [(q1, .inl (cI, 25, .inl (fun _ => 0)))] ++ [(q2, .inl (cI, 8, .inl (fun _ => 0)))] ++ [(q3, .inl (cI, 8, .inl (fun _ => 0)))] ++ [(q4, .inl (cI, 8, .inl (fun _ => 0)))] ++ [(q5, .inl (cI, 40, .inl (fun _ => 0)))] ++ [(q6, .inl (cI, 8, .inl (fun _ => 0)))])) := hD
  refine lv_aload_n X.1 X.2.1 (show decode prog_5_method_1_code 69 = .ok (.aload_n 0, 1) by decide +kernel) rfl (lv_at hl 0 rfl) ?_
  refine lv_iconst (v := 1) X.1 X.2.1 (show decode prog_5_method_1_code 70 = .ok (.iconst 1, 1) by decide +kernel) (by decide) ?_
  refine ci_put X (k := 9) (ty := tyX3 9) rfl (by decide) hP hD hS (gd_t (mt1 64 rfl) rfl) rfl hin (tyX3_ok 9 (by decide)) rfl rfl (Nat.le_of_ble_eq_true rfl) (show decode prog_5_method_1_code 71 = .ok (.putfield 40, 3) by decide +kernel) fun H locs hP hD hS => ?_
  have hP : va_P D vwCl ((h0, .inr (3, [.int 0, .ref q0, .ref q1, .int 0, .ref q2, .ref q3, .ref q4, .ref q5, .ref q6, .int 1, .int 0, .int 0, .null])) :: ([] ++ [(q0, .inl (cI, 5, .inl (fun _ => 0)))] ++ [(q1, .inl (cI, 25, .inl (fun _ => 0)))] ++ [(q2, .inl (cI, 8, .inl (fun _ => 0)))] ++ [(q3, .inl (cI, 8, .inl (fun _ => 0)))] ++ [(q4, .inl (cI, 8, .inl (fun _ => 0)))] ++ [(q5, .inl (cI, 40, .inl (fun _ => 0)))] ++ [(q6, .inl (cI, 8, .inl (fun _ => 0)))])) H := hP
  have hD : va_D A ((h0, .inr (3, [.int 0, .ref q0, .ref q1, .int 0, .ref q2, .ref q3, .ref q4, .ref q5, .ref q6, .int 1, .int 0, .int 0, .null])) :: ([] ++ [(q0, .inl (cI, 5, .inl (fun _ => 0)))] ++ [(q1, .inl (cI, 25, .inl (fun _ => 0)))] ++ [(q2, .inl (cI, 8, .inl (fun _ => 0)))] ++ [(q3, .inl (cI, 8, .inl (fun _ => 0)))] ++ [(q4, .inl (cI, 8, .inl (fun _ => 0)))] ++ [(q5, .inl (cI, 40, .inl (fun _ => 0)))] ++ [(q6, .inl (cI, 8, .inl (fun _ => 0)))])) := hD
  refine lv_aload_n X.1 X.2.1 (show decode prog_5_method_1_code 74 = .ok (.aload_n 0, 1) by decide +kernel) rfl (lv_at hl 0 rfl) ?_
  refine lv_iconst (v := 0) X.1 X.2.1 (show decode prog_5_method_1_code 75 = .ok (.iconst 0, 1) by decide +kernel) (by decide) ?_
  refine ci_put X (k := 10) (ty := tyX3 10) rfl (by decide) hP hD hS (gd_t (mt1 67 rfl) rfl) rfl hin (tyX3_ok 10 (by decide)) rfl rfl (Nat.le_of_ble_eq_true rfl) (show decode prog_5_method_1_code 76 = .ok (.putfield 43, 3) by decide +kernel) fun H locs hP hD hS => ?_
  have hP : va_P D vwCl ((h0, .inr (3, [.int 0, .ref q0, .ref q1, .int 0, .ref q2, .ref q3, .ref q4, .ref q5, .ref q6, .int 1, .int 0, .int 0, .null])) :: ([] ++ [(q0, .inl (cI, 5, .inl (fun _ => 0)))] ++ [(q1, .inl (cI, 25, .inl (fun _ => 0)))] ++ [(q2, .inl (cI, 8, .inl (fun _ => 0)))] ++ [(q3, .inl (cI, 8, .inl (fun _ => 0)))] ++ [(q4, .inl (cI, 8, .inl (fun _ => 0)))] ++ [(q5, .inl (cI, 40, .inl (fun _ => 0)))] ++ [(q6, .inl (cI, 8, .inl (fun _ => 0)))])) H := hP
  have hD : va_D A ((h0, .inr (3, [.int 0, .ref q0, .ref q1, .int 0, .ref q2, .ref q3, .ref q4, .ref q5, .ref q6, .int 1, .int 0, .int 0, .null])) :: ([] ++ [(q0, .inl (cI, 5, .inl (fun _ => 0)))] ++ [(q1, .inl (cI, 25, .inl (fun _ => 0)))] ++ [(q2, .inl (cI, 8, .inl (fun _ => 0)))] ++ [(q3, .inl (cI, 8, .inl (fun _ => 0)))] ++ [(q4, .inl (cI, 8, .inl (fun _ => 0)))] ++ [(q5, .inl (cI, 40, .inl (fun _ => 0)))] ++ [(q6, .inl (cI, 8, .inl (fun _ => 0)))])) := hD
  refine lv_aload_n X.1 X.2.1 (show decode prog_5_method_1_code 79 = .ok (.aload_n 0, 1) by decide +kernel) rfl (lv_at hl 0 rfl) ?_
  refine lv_sipush (v := 255) X.1 X.2.1 (show decode prog_5_method_1_code 80 = .ok (.sipush 255, 3) by decide +kernel) (by decide) ?_
  refine ci_put X (k := 11) (ty := tyX3 11) rfl (by decide) hP hD hS (gd_t (mt1 70 rfl) rfl) rfl hin (tyX3_ok 11 (by decide)) rfl rfl (Nat.le_of_ble_eq_true rfl) (show decode prog_5_method_1_code 83 = .ok (.putfield 46, 3) by decide +kernel) fun H locs hP hD hS => ?_
  have hP : va_P D vwCl ((h0, .inr (3, [.int 0, .ref q0, .ref q1, .int 0, .ref q2, .ref q3, .ref q4, .ref q5, .ref q6, .int 1, .int 0, .int 255, .null])) :: ([] ++ [(q0, .inl (cI, 5, .inl (fun _ => 0)))] ++ [(q1, .inl (cI, 25, .inl (fun _ => 0)))] ++ [(q2, .inl (cI, 8, .inl (fun _ => 0)))] ++ [(q3, .inl (cI, 8, .inl (fun _ => 0)))] ++ [(q4, .inl (cI, 8, .inl (fun _ => 0)))] ++ [(q5, .inl (cI, 40, .inl (fun _ => 0)))] ++ [(q6, .inl (cI, 8, .inl (fun _ => 0)))])) H := hP
  have hD : va_D A ((h0, .inr (3, [.int 0, .ref q0, .ref q1, .int 0, .ref q2, .ref q3, .ref q4, .ref q5, .ref q6, .int 1, .int 0, .int 255, .null])) :: ([] ++ [(q0, .inl (cI, 5, .inl (fun _ => 0)))] ++ [(q1, .inl (cI, 25, .inl (fun _ => 0)))] ++ [(q2, .inl (cI, 8, .inl (fun _ => 0)))] ++ [(q3, .inl (cI, 8, .inl (fun _ => 0)))] ++ [(q4, .inl (cI, 8, .inl (fun _ => 0)))] ++ [(q5, .inl (cI, 40, .inl (fun _ => 0)))] ++ [(q6, .inl (cI, 8, .inl (fun _ => 0)))])) := hD
  refine lv_aload_n X.1 X.2.1 (show decode prog_5_method_1_code 86 = .ok (.aload_n 0, 1) by decide +kernel) rfl (lv_at hl 0 rfl) ?_
  refine lv_iconst (v := 5) X.1 X.2.1 (show decode prog_5_method_1_code 87 = .ok (.iconst 5, 1) by decide +kernel) (by decide) ?_
  refine ci_int X (N := 5) hP hD hS (by decide) (by decide) (by decide) (Nat.le_of_ble_eq_true rfl) (Nat.le_of_ble_eq_true rfl) (show decode prog_5_method_1_code 88 = .ok (.newarray .int, 2) by decide +kernel) fun q7 H hP hD hS => ?_
  have hP : va_P D vwCl ((h0, .inr (3, [.int 0, .ref q0, .ref q1, .int 0, .ref q2, .ref q3, .ref q4, .ref q5, .ref q6, .int 1, .int 0, .int 255, .null])) :: ([] ++ [(q0, .inl (cI, 5, .inl (fun _ => 0)))] ++ [(q1, .inl (cI, 25, .inl (fun _ => 0)))] ++ [(q2, .inl (cI, 8, .inl (fun _ => 0)))] ++ [(q3, .inl (cI, 8, .inl (fun _ => 0)))] ++ [(q4, .inl (cI, 8, .inl (fun _ => 0)))] ++ [(q5, .inl (cI, 40, .inl (fun _ => 0)))] ++ [(q6, .inl (cI, 8, .inl (fun _ => 0)))] ++ [(q7, .inl (cI, 5, .inl (fun _ => 0)))])) H := hP
  have hD : va_D A ((h0, .inr (3, [.int 0, .ref q0, .ref q1, .int 0, .ref q2, .ref q3, .ref q4, .ref q5, .ref q6, .int 1, .int 0, .int 255, .null])) :: ([] ++ [(q0, .inl (cI, 5, .inl (fun _ => 0)))] ++ [(q1, .inl (cI, 25, .inl (fun _ => 0)))] ++ [(q2, .inl (cI, 8, .inl (fun _ => 0)))] ++ [(q3, .inl (cI, 8, .inl (fun _ => 0)))] ++ [(q4, .inl (cI, 8, .inl (fun _ => 0)))] ++ [(q5, .inl (cI, 40, .inl (fun _ => 0)))] ++ [(q6, .inl (cI, 8, .inl (fun _ => 0)))] ++ [(q7, .inl (cI, 5, .inl (fun _ => 0)))])) := hD
  refine ci_put X (k := 12) (ty := tyX3 12) rfl (by decide) hP hD hS (gd_t (mt1 73 rfl) rfl) rfl hin (tyX3_ok 12 (by decide)) rfl rfl (Nat.le_of_ble_eq_true rfl) (show decode prog_5_method_1_code 90 = .ok (.putfield 49, 3) by decide +kernel) fun H locs hP hD hS => ?_
  have hP : va_P D vwCl ((h0, .inr (3, [.int 0, .ref q0, .ref q1, .int 0, .ref q2, .ref q3, .ref q4, .ref q5, .ref q6, .int 1, .int 0, .int 255, .ref q7])) :: ([] ++ [(q0, .inl (cI, 5, .inl (fun _ => 0)))] ++ [(q1, .inl (cI, 25, .inl (fun _ => 0)))] ++ [(q2, .inl (cI, 8, .inl (fun _ => 0)))] ++ [(q3, .inl (cI, 8, .inl (fun _ => 0)))] ++ [(q4, .inl (cI, 8, .inl (fun _ => 0)))] ++ [(q5, .inl (cI, 40, .inl (fun _ => 0)))] ++ [(q6, .inl (cI, 8, .inl (fun _ => 0)))] ++ [(q7, .inl (cI, 5, .inl (fun _ => 0)))])) H := hP
  have hD : va_D A ((h0, .inr (3, [.int 0, .ref q0, .ref q1, .int 0, .ref q2, .ref q3, .ref q4, .ref q5, .ref q6, .int 1, .int 0, .int 255, .ref q7])) :: ([] ++ [(q0, .inl (cI, 5, .inl (fun _ => 0)))] ++ [(q1, .inl (cI, 25, .inl (fun _ => 0)))] ++ [(q2, .inl (cI, 8, .inl (fun _ => 0)))] ++ [(q3, .inl (cI, 8, .inl (fun _ => 0)))] ++ [(q4, .inl (cI, 8, .inl (fun _ => 0)))] ++ [(q5, .inl (cI, 40, .inl (fun _ => 0)))] ++ [(q6, .inl (cI, 8, .inl (fun _ => 0)))] ++ [(q7, .inl (cI, 5, .inl (fun _ => 0)))])) := hD
  exact fin (fun n => ([q0, q1, q2, q3, q4, q5, q6, q7] : List Nat).getD n 0) 93 _ _ _ _ _ (show decode prog_5_method_1_code 93 = .ok (.return_, 1) by decide +kernel) (Nat.le_of_ble_eq_true rfl) (Nat.le_of_ble_eq_true rfl) hP hD hS
def R_4 : RT := fun cI cQ h β => [(h, .inr (4, [.ref (β 0), .int 0, .int 0, .int 0, .int 0, .int 0, .int 0, .int 0, .int 0]))] ++ [(β 0, .inl (cI, 0, .inl (fun _ => 0)))]
def rk_4 : Room := { frames := 1, cells := 1, slots := 0, locals := 20 }
set_option maxHeartbeats 4000000 in
set_option maxRecDepth 100000 in
theorem ck_4 (l : Launch) : CIn l ⟨RX4, "<init>", "()V"⟩ prog_6_method_1_code 1 rk_4 4 [.null, .int 0, .int 0, .int 0, .int 0, .int 0, .int 0, .int 0, .int 0] R_4 := by
  refine ci_of (by decide) (by decide) ?_
  intro p e s m args below meth c D cI cQ A h0 ls Q X hin hl hP hD fin
  have hin : meth.name = "<init>" := hin
  have hS : va_S A s.heap s.heap [] := va_S.rf
  refine lv_aload_n X.1 X.2.1 (show decode prog_6_method_1_code 0 = .ok (.aload_n 0, 1) by decide +kernel) rfl (lv_at hl 0 rfl) ?_
  refine ci_obj X (gd_t (mt1 108 rfl) rfl) (show decode prog_6_method_1_code 1 = .ok (.invokespecial 3, 3) by decide +kernel) ⟨Nat.le_of_ble_eq_true rfl, Nat.le_of_ble_eq_true rfl⟩ hl.1 ?_
  refine lv_aload_n X.1 X.2.1 (show decode prog_6_method_1_code 4 = .ok (.aload_n 0, 1) by decide +kernel) rfl (lv_at hl 0 rfl) ?_
  refine lv_iconst (v := 0) X.1 X.2.1 (show decode prog_6_method_1_code 5 = .ok (.iconst 0, 1) by decide +kernel) (by decide) ?_
  refine ci_int X (N := 0) hP hD hS (by decide) (by decide) (by decide) (Nat.le_of_ble_eq_true rfl) (Nat.le_of_ble_eq_true rfl) (show decode prog_6_method_1_code 6 = .ok (.newarray .int, 2) by decide +kernel) fun q0 H hP hD hS => ?_
  have hP : va_P D vwCl ((h0, .inr (4, [.null, .int 0, .int 0, .int 0, .int 0, .int 0, .int 0, .int 0, .int 0])) :: ([] ++ [(q0, .inl (cI, 0, .inl (fun _ => 0)))])) H := hP
  have hD : va_D A ((h0, .inr (4, [.null, .int 0, .int 0, .int 0, .int 0, .int 0, .int 0, .int 0, .int 0])) :: ([] ++ [(q0, .inl (cI, 0, .inl (fun _ => 0)))])) := hD
  refine ci_put X (k := 0) (ty := tyX4 0) rfl (by decide) hP hD hS (gd_t (mt1 109 rfl) rfl) rfl hin (tyX4_ok 0 (by decide)) rfl rfl (Nat.le_of_ble_eq_true rfl) (show decode prog_6_method_1_code 8 = .ok (.putfield 9, 3) by decide +kernel) fun H locs hP hD hS => ?_
  have hP : va_P D vwCl ((h0, .inr (4, [.ref q0, .int 0, .int 0, .int 0, .int 0, .int 0, .int 0, .int 0, .int 0])) :: ([] ++ [(q0, .inl (cI, 0, .inl (fun _ => 0)))])) H := hP
  have hD : va_D A ((h0, .inr (4, [.ref q0, .int 0, .int 0, .int 0, .int 0, .int 0, .int 0, .int 0, .int 0])) :: ([] ++ [(q0, .inl (cI, 0, .inl (fun _ => 0)))])) := hD
  refine lv_aload_n X.1 X.2.1 (show decode prog_6_method_1_code 11 = .ok (.aload_n 0, 1) by decide +kernel) rfl (lv_at hl 0 rfl) ?_
  refine lv_iconst (v := 0) X.1 X.2.1 (show decode prog_6_method_1_code 12 = .ok (.iconst 0, 1) by decide +kernel) (by decide) ?_
  refine ci_put X (k := 1) (ty := tyX4 1) rfl (by decide) hP hD hS (gd_t (mt1 110 rfl) rfl) rfl hin (tyX4_ok 1 (by decide)) rfl rfl (Nat.le_of_ble_eq_true rfl) (show decode prog_6_method_1_code 13 = .ok (.putfield 15, 3) by decide +kernel) fun H locs hP hD hS => ?_
  have hP : va_P D vwCl ((h0, .inr (4, [.ref q0, .int 0, .int 0, .int 0, .int 0, .int 0, .int 0, .int 0, .int 0])) :: ([] ++ [(q0, .inl (cI, 0, .inl (fun _ => 0)))])) H := hP
  have hD : va_D A ((h0, .inr (4, [.ref q0, .int 0, .int 0, .int 0, .int 0, .int 0, .int 0, .int 0, .int 0])) :: ([] ++ [(q0, .inl (cI, 0, .inl (fun _ => 0)))])) := hD
  refine lv_aload_n X.1 X.2.1 (show decode prog_6_method_1_code 16 = .ok (.aload_n 0, 1) by decide +kernel) rfl (lv_at hl 0 rfl) ?_
  refine lv_iconst (v := 0) X.1 X.2.1 (show decode prog_6_method_1_code 17 = .ok (.iconst 0, 1) by decide +kernel) (by decide) ?_
  refine ci_put X (k := 2) (ty := tyX4 2) rfl (by decide) hP hD hS (gd_t (mt1 111 rfl) rfl) rfl hin (tyX4_ok 2 (by decide)) rfl rfl (Nat.le_of_ble_eq_true rfl) (show decode prog_6_method_1_code 18 = .ok (.putfield 19, 3) by decide +kernel) fun H locs hP hD hS => ?_
  have hP : va_P D vwCl ((h0, .inr (4, [.ref q0, .int 0, .int 0, .int 0, .int 0, .int 0, .int 0, .int 0, .int 0])) :: ([] ++ [(q0, .inl (cI, 0, .inl (fun _ => 0)))])) H := hP
  have hD : va_D A ((h0, .inr (4, [.ref q0, .int 0, .int 0, .int 0, .int 0, .int 0, .int 0, .int 0, .int 0])) :: ([] ++ [(q0, .inl (cI, 0, .inl (fun _ => 0)))])) := hD
  refine lv_aload_n X.1 X.2.1 (show decode prog_6_method_1_code 21 = .ok (.aload_n 0, 1) by decide +kernel) rfl (lv_at hl 0 rfl) ?_
  refine lv_iconst (v := 0) X.1 X.2.1 (show decode prog_6_method_1_code 22 = .ok (.iconst 0, 1) by decide +kernel) (by decide) ?_
  refine ci_put X (k := 3) (ty := tyX4 3) rfl (by decide) hP hD hS (gd_t (mt1 112 rfl) rfl) rfl hin (tyX4_ok 3 (by decide)) rfl rfl (Nat.le_of_ble_eq_true rfl) (show decode prog_6_method_1_code 23 = .ok (.putfield 22, 3) by decide +kernel) fun H locs hP hD hS => ?_
  have hP : va_P D vwCl ((h0, .inr (4, [.ref q0, .int 0, .int 0, .int 0, .int 0, .int 0, .int 0, .int 0, .int 0])) :: ([] ++ [(q0, .inl (cI, 0, .inl (fun _ => 0)))])) H := hP
  have hD : va_D A ((h0, .inr (4, [.ref q0, .int 0, .int 0, .int 0, .int 0, .int 0, .int 0, .int 0, .int 0])) :: ([] ++ [(q0, .inl (cI, 0, .inl (fun _ => 0)))])) := hD
  refine lv_aload_n X.1 X.2.1 (show decode prog_6_method_1_code 26 = .ok (.aload_n 0, 1) by decide +kernel) rfl (lv_at hl 0 rfl) ?_
  refine lv_iconst (v := 0) X.1 X.2.1 (show decode prog_6_method_1_code 27 = .ok (.iconst 0, 1) by decide +kernel) (by decide) ?_
  refine ci_put X (k := 4) (ty := tyX4 4) rfl (by decide) hP hD hS (gd_t (mt1 113 rfl) rfl) rfl hin (tyX4_ok 4 (by decide)) rfl rfl (Nat.le_of_ble_eq_true rfl) (show decode prog_6_method_1_code 28 = .ok (.putfield 25, 3) by decide +kernel) fun H locs hP hD hS => ?_
  have hP : va_P D vwCl ((h0, .inr (4, [.ref q0, .int 0, .int 0, .int 0, .int 0, .int 0, .int 0, .int 0, .int 0])) :: ([] ++ [(q0, .inl (cI, 0, .inl (fun _ => 0)))])) H := hP
  have hD : va_D A ((h0, .inr (4, [.ref q0, .int 0, .int 0, .int 0, .int 0, .int 0, .int 0, .int 0, .int 0])) :: ([] ++ [(q0, .inl (cI, 0, .inl (fun _ => 0)))])) := hD
  refine lv_aload_n X.1 X.2.1 (show decode prog_6_method_1_code 31 = .ok (.aload_n 0, 1) by decide +kernel) rfl (lv_at hl 0 rfl) ?_
  refine lv_iconst (v := 0) X.1 X.2.1 (show decode prog_6_method_1_code 32 = .ok (.iconst 0, 1) by decide +kernel) (by decide) ?_
  refine ci_put X (k := 5) (ty := tyX4 5) rfl (by decide) hP hD hS (gd_t (mt1 114 rfl) rfl) rfl hin (tyX4_ok 5 (by decide)) rfl rfl (Nat.le_of_ble_eq_true rfl) (show decode prog_6_method_1_code 33 = .ok (.putfield 28, 3) by decide +kernel) fun H locs hP hD hS => ?_
  have hP : va_P D vwCl ((h0, .inr (4, [.ref q0, .int 0, .int 0, .int 0, .int 0, .int 0, .int 0, .int 0, .int 0])) :: ([] ++ [(q0, .inl (cI, 0, .inl (fun _ => 0)))])) H := hP
  have hD : va_D A ((h0, .inr (4, [.ref q0, .int 0, .int 0, .int 0, .int 0, .int 0, .int 0, .int 0, .int 0])) :: ([] ++ [(q0, .inl (cI, 0, .inl (fun _ => 0)))])) := hD
  refine lv_aload_n X.1 X.2.1 (show decode prog_6_method_1_code 36 = .ok (.aload_n 0, 1) by decide +kernel) rfl (lv_at hl 0 rfl) ?_
  refine lv_iconst (v := 0) X.1 X.2.1 (show decode prog_6_method_1_code 37 = .ok (.iconst 0, 1) by decide +kernel) (by decide) ?_
  refine ci_put X (k := 6) (ty := tyX4 6) rfl (by decide) hP hD hS (gd_t (mt1 115 rfl) rfl) rfl hin (tyX4_ok 6 (by decide)) rfl rfl (Nat.le_of_ble_eq_true rfl) (show decode prog_6_method_1_code 38 = .ok (.putfield 31, 3) by decide +kernel) fun H locs hP hD hS => ?_
  have hP : va_P D vwCl ((h0, .inr (4, [.ref q0, .int 0, .int 0, .int 0, .int 0, .int 0, .int 0, .int 0, .int 0])) :: ([] ++ [(q0, .inl (cI, 0, .inl (fun _ => 0)))])) H := hP
  have hD : va_D A ((h0, .inr (4, [.ref q0, .int 0, .int 0, .int 0, .int 0, .int 0, .int 0, .int 0, .int 0])) :: ([] ++ [(q0, .inl (cI, 0, .inl (fun _ => 0)))])) := hD
  refine lv_aload_n X.1 X.2.1 (show decode prog_6_method_1_code 41 = .ok (.aload_n 0, 1) by decide +kernel) rfl (lv_at hl 0 rfl) ?_
  refine lv_iconst (v := 0) X.1 X.2.1 (show decode prog_6_method_1_code 42 = .ok (.iconst 0, 1) by decide +kernel) (by decide) ?_
  refine ci_put X (k := 7) (ty := tyX4 7) rfl (by decide) hP hD hS (gd_t (mt1 116 rfl) rfl) rfl hin (tyX4_ok 7 (by decide)) rfl rfl (Nat.le_of_ble_eq_true rfl) (show decode prog_6_method_1_code 43 = .ok (.putfield 34, 3) by decide +kernel) fun H locs hP hD hS => ?_
  have hP : va_P D vwCl ((h0, .inr (4, [.ref q0, .int 0, .int 0, .int 0, .int 0, .int 0, .int 0, .int 0, .int 0])) :: ([] ++ [(q0, .inl (cI, 0, .inl (fun _ => 0)))])) H := hP
  have hD : va_D A ((h0, .inr (4, [.ref q0, .int 0, .int 0, .int 0, .int 0, .int 0, .int 0, .int 0, .int 0])) :: ([] ++ [(q0, .inl (cI, 0, .inl (fun _ => 0)))])) := hD
  refine lv_aload_n X.1 X.2.1 (show decode prog_6_method_1_code 46 = .ok (.aload_n 0, 1) by decide +kernel) rfl (lv_at hl 0 rfl) ?_
  refine lv_iconst (v := 0) X.1 X.2.1 (show decode prog_6_method_1_code 47 = .ok (.iconst 0, 1) by decide +kernel) (by decide) ?_
  refine ci_put X (k := 8) (ty := tyX4 8) rfl (by decide) hP hD hS (gd_t (mt1 117 rfl) rfl) rfl hin (tyX4_ok 8 (by decide)) rfl rfl (Nat.le_of_ble_eq_true rfl) (show decode prog_6_method_1_code 48 = .ok (.putfield 37, 3) by decide +kernel) fun H locs hP hD hS => ?_
  have hP : va_P D vwCl ((h0, .inr (4, [.ref q0, .int 0, .int 0, .int 0, .int 0, .int 0, .int 0, .int 0, .int 0])) :: ([] ++ [(q0, .inl (cI, 0, .inl (fun _ => 0)))])) H := hP
  have hD : va_D A ((h0, .inr (4, [.ref q0, .int 0, .int 0, .int 0, .int 0, .int 0, .int 0, .int 0, .int 0])) :: ([] ++ [(q0, .inl (cI, 0, .inl (fun _ => 0)))])) := hD
  exact fin (fun n => ([q0] : List Nat).getD n 0) 51 _ _ _ _ _ (show decode prog_6_method_1_code 51 = .ok (.return_, 1) by decide +kernel) (Nat.le_of_ble_eq_true rfl) (Nat.le_of_ble_eq_true rfl) hP hD hS
def R_1 : RT := fun cI cQ h β => [(h, .inr (1, [.ref (β 0), .ref (β 1), .ref (β 2), .ref (β 3), .ref (β 4), .ref (β 5), .int 0]))] ++ [(β 0, .inl (cI, 8, .inl (fun _ => 0)))] ++ [(β 1, .inl (cI, 8, .inl (fun _ => 0)))] ++ [(β 2, .inl (cI, 5, .inl (fun _ => 0)))] ++ [(β 3, .inl (cI, 8, .inl (fun _ => 0)))] ++ [(β 4, .inl (cI, 40, .inl (fun _ => 0)))] ++ [(β 5, .inl (cI, 9, .inl (fun _ => 0)))]
def rk_1 : Room := { frames := 1, cells := 6, slots := 78, locals := 20 }
set_option maxHeartbeats 4000000 in
set_option maxRecDepth 100000 in
theorem ck_1 (l : Launch) : CIn l ⟨RX1, "<init>", "()V"⟩ prog_3_method_1_code 1 rk_1 1 [.null, .null, .null, .null, .null, .null, .int 0] R_1 := by
  refine ci_of (by decide) (by decide) ?_
  intro p e s m args below meth c D cI cQ A h0 ls Q X hin hl hP hD fin
  have hin : meth.name = "<init>" := hin
  have hS : va_S A s.heap s.heap [] := va_S.rf
  refine lv_aload_n X.1 X.2.1 (show decode prog_3_method_1_code 0 = .ok (.aload_n 0, 1) by decide +kernel) rfl (lv_at hl 0 rfl) ?_
  refine ci_obj X (gd_t (mt1 142 rfl) rfl) (show decode prog_3_method_1_code 1 = .ok (.invokespecial 3, 3) by decide +kernel) ⟨Nat.le_of_ble_eq_true rfl, Nat.le_of_ble_eq_true rfl⟩ hl.1 ?_
  refine lv_aload_n X.1 X.2.1 (show decode prog_3_method_1_code 4 = .ok (.aload_n 0, 1) by decide +kernel) rfl (lv_at hl 0 rfl) ?_
  refine lv_bipush (v := 8) X.1 X.2.1 (show decode prog_3_method_1_code 5 = .ok (.bipush 8, 2) by decide +kernel) (by decide) ?_
  refine ci_int X (N := 8) hP hD hS (by decide) (by decide) (by decide) (Nat.le_of_ble_eq_true rfl) (Nat.le_of_ble_eq_true rfl) (show decode prog_3_method_1_code 7 = .ok (.newarray .int, 2) by decide +kernel) fun q0 H hP hD hS => ?_
  have hP : va_P D vwCl ((h0, .inr (1, [.null, .null, .null, .null, .null, .null, .int 0])) :: ([] ++ [(q0, .inl (cI, 8, .inl (fun _ => 0)))])) H := hP
  have hD : va_D A ((h0, .inr (1, [.null, .null, .null, .null, .null, .null, .int 0])) :: ([] ++ [(q0, .inl (cI, 8, .inl (fun _ => 0)))])) := hD
  refine ci_put X (k := 0) (ty := tyX1 0) rfl (by decide) hP hD hS (gd_t (mt1 143 rfl) rfl) rfl hin (tyX1_ok 0 (by decide)) rfl rfl (Nat.le_of_ble_eq_true rfl) (show decode prog_3_method_1_code 9 = .ok (.putfield 9, 3) by decide +kernel) fun H locs hP hD hS => ?_
  have hP : va_P D vwCl ((h0, .inr (1, [.ref q0, .null, .null, .null, .null, .null, .int 0])) :: ([] ++ [(q0, .inl (cI, 8, .inl (fun _ => 0)))])) H := hP
  have hD : va_D A ((h0, .inr (1, [.ref q0, .null, .null, .null, .null, .null, .int 0])) :: ([] ++ [(q0, .inl (cI, 8, .inl (fun _ => 0)))])) := hD
  refine lv_aload_n X.1 X.2.1 (show decode prog_3_method_1_code 12 = .ok (.aload_n 0, 1) by decide +kernel) rfl (lv_at hl 0 rfl) ?_
  refine lv_bipush (v := 8) X.1 X.2.1 (show decode prog_3_method_1_code 13 = .ok (.bipush 8, 2) by decide +kernel) (by decide) ?_
  refine ci_int X (N := 8) hP hD hS (by decide) (by decide) (by decide) (Nat.le_of_ble_eq_true rfl) (Nat.le_of_ble_eq_true rfl) (show decode prog_3_method_1_code 15 = .ok (.newarray .int, 2) by decide +kernel) fun q1 H hP hD hS => ?_
  have hP : va_P D vwCl ((h0, .inr (1, [.ref q0, .null, .null, .null, .null, .null, .int 0])) :: ([] ++ [(q0, .inl (cI, 8, .inl (fun _ => 0)))] ++ [(q1, .inl (cI, 8, .inl (fun _ => 0)))])) H := hP
  have hD : va_D A ((h0, .inr (1, [.ref q0, .null, .null, .null, .null, .null, .int 0])) :: ([] ++ [(q0, .inl (cI, 8, .inl (fun _ => 0)))] ++ [(q1, .inl (cI, 8, .inl (fun _ => 0)))])) := hD
  refine ci_put X (k := 1) (ty := tyX1 1) rfl (by decide) hP hD hS (gd_t (mt1 144 rfl) rfl) rfl hin (tyX1_ok 1 (by decide)) rfl rfl (Nat.le_of_ble_eq_true rfl) (show decode prog_3_method_1_code 17 = .ok (.putfield 15, 3) by decide +kernel) fun H locs hP hD hS => ?_
  have hP : va_P D vwCl ((h0, .inr (1, [.ref q0, .ref q1, .null, .null, .null, .null, .int 0])) :: ([] ++ [(q0, .inl (cI, 8, .inl (fun _ => 0)))] ++ [(q1, .inl (cI, 8, .inl (fun _ => 0)))])) H := hP
  have hD : va_D A ((h0, .inr (1, [.ref q0, .ref q1, .null, .null, .null, .null, .int 0])) :: ([] ++ [(q0, .inl (cI, 8, .inl (fun _ => 0)))] ++ [(q1, .inl (cI, 8, .inl (fun _ => 0)))])) := hD
  refine lv_aload_n X.1 X.2.1 (show decode prog_3_method_1_code 20 = .ok (.aload_n 0, 1) by decide +kernel) rfl (lv_at hl 0 rfl) ?_
  refine lv_iconst (v := 5) X.1 X.2.1 (show decode prog_3_method_1_code 21 = .ok (.iconst 5, 1) by decide +kernel) (by decide) ?_
  refine ci_int X (N := 5) hP hD hS (by decide) (by decide) (by decide) (Nat.le_of_ble_eq_true rfl) (Nat.le_of_ble_eq_true rfl) (show decode prog_3_method_1_code 22 = .ok (.newarray .int, 2) by decide +kernel) fun q2 H hP hD hS => ?_
  have hP : va_P D vwCl ((h0, .inr (1, [.ref q0, .ref q1, .null, .null, .null, .null, .int 0])) :: ([] ++ [(q0, .inl (cI, 8, .inl (fun _ => 0)))] ++ [(q1, .inl (cI, 8, .inl (fun _ => 0)))] ++ [(q2, .inl (cI, 5, .inl (fun _ => 0)))])) H := hP
  have hD : va_D A ((h0, .inr (1, [.ref q0, .ref q1, .null, .null, .null, .null, .int 0])) :: ([] ++ [(q0, .inl (cI, 8, .inl (fun _ => 0)))] ++ [(q1, .inl (cI, 8, .inl (fun _ => 0)))] ++ [(q2, .inl (cI, 5, .inl (fun _ => 0)))])) := hD
  refine ci_put X (k := 2) (ty := tyX1 2) rfl (by decide) hP hD hS (gd_t (mt1 146 rfl) rfl) rfl hin (tyX1_ok 2 (by decide)) rfl rfl (Nat.le_of_ble_eq_true rfl) (show decode prog_3_method_1_code 24 = .ok (.putfield 18, 3) by decide +kernel) fun H locs hP hD hS => ?_
  have hP : va_P D vwCl ((h0, .inr (1, [.ref q0, .ref q1, .ref q2, .null, .null, .null, .int 0])) :: ([] ++ [(q0, .inl (cI, 8, .inl (fun _ => 0)))] ++ [(q1, .inl (cI, 8, .inl (fun _ => 0)))] ++ [(q2, .inl (cI, 5, .inl (fun _ => 0)))])) H := hP
  have hD : va_D A ((h0, .inr (1, [.ref q0, .ref q1, .ref q2, .null, .null, .null, .int 0])) :: ([] ++ [(q0, .inl (cI, 8, .inl (fun _ => 0)))] ++ [(q1, .inl (cI, 8, .inl (fun _ => 0)))] ++ [(q2, .inl (cI, 5, .inl (fun _ => 0)))])) := hD
  refine lv_aload_n X.1 X.2.1 (show decode prog_3_method_1_code 27 = .ok (.aload_n 0, 1) by decide +kernel) rfl (lv_at hl 0 rfl) ?_
  refine lv_bipush (v := 8) X.1 X.2.1 (show decode prog_3_method_1_code 28 = .ok (.bipush 8, 2) by decide +kernel) (by decide) ?_
  refine ci_int X (N := 8) hP hD hS (by decide) (by decide) (by decide) (Nat.le_of_ble_eq_true rfl) (Nat.le_of_ble_eq_true rfl) (show decode prog_3_method_1_code 30 = .ok (.newarray .int, 2) by decide +kernel) fun q3 H hP hD hS => ?_
  have hP : va_P D vwCl ((h0, .inr (1, [.ref q0, .ref q1, .ref q2, .null, .null, .null, .int 0])) :: ([] ++ [(q0, .inl (cI, 8, .inl (fun _ => 0)))] ++ [(q1, .inl (cI, 8, .inl (fun _ => 0)))] ++ [(q2, .inl (cI, 5, .inl (fun _ => 0)))] ++ [(q3, .inl (cI, 8, .inl (fun _ => 0)))])) H := hP
  have hD : va_D A ((h0, .inr (1, [.ref q0, .ref q1, .ref q2, .null, .null, .null, .int 0])) :: ([] ++ [(q0, .inl (cI, 8, .inl (fun _ => 0)))] ++ [(q1, .inl (cI, 8, .inl (fun _ => 0)))] ++ [(q2, .inl (cI, 5, .inl (fun _ => 0)))] ++ [(q3, .inl (cI, 8, .inl (fun _ => 0)))])) := hD
  refine ci_put X (k := 3) (ty := tyX1 3) rfl (by decide) hP hD hS (gd_t (mt1 147 rfl) rfl) rfl hin (tyX1_ok 3 (by decide)) rfl rfl (Nat.le_of_ble_eq_true rfl) (show decode prog_3_method_1_code 32 = .ok (.putfield 21, 3) by decide +kernel) fun H locs hP hD hS => ?_
  have hP : va_P D vwCl ((h0, .inr (1, [.ref q0, .ref q1, .ref q2, .ref q3, .null, .null, .int 0])) :: ([] ++ [(q0, .inl (cI, 8, .inl (fun _ => 0)))] ++ [(q1, .inl (cI, 8, .inl (fun _ => 0)))] ++ [(q2, .inl (cI, 5, .inl (fun _ => 0)))] ++ [(q3, .inl (cI, 8, .inl (fun _ => 0)))])) H := hP
  have hD : va_D A ((h0, .inr (1, [.ref q0, .ref q1, .ref q2, .ref q3, .null, .null, .int 0])) :: ([] ++ [(q0, .inl (cI, 8, .inl (fun _ => 0)))] ++ [(q1, .inl (cI, 8, .inl (fun _ => 0)))] ++ [(q2, .inl (cI, 5, .inl (fun _ => 0)))] ++ [(q3, .inl (cI, 8, .inl (fun _ => 0)))])) := hD
  refine lv_aload_n X.1 X.2.1 (show decode prog_3_method_1_code 35 = .ok (.aload_n 0, 1) by decide +kernel) rfl (lv_at hl 0 rfl) ?_
  refine lv_bipush (v := 40) X.1 X.2.1 (show decode prog_3_method_1_code 36 = .ok (.bipush 40, 2) by decide +kernel) (by decide) ?_
  refine ci_int X (N := 40) hP hD hS (by decide) (by decide) (by decide) (Nat.le_of_ble_eq_true rfl) (Nat.le_of_ble_eq_true rfl) (show decode prog_3_method_1_code 38 = .ok (.newarray .int, 2) by decide +kernel) fun q4 H hP hD hS => ?_
  have hP : va_P D vwCl ((h0, .inr (1, [.ref q0, .ref q1, .ref q2, .ref q3, .null, .null, .int 0])) :: ([] ++ [(q0, .inl (cI, 8, .inl (fun _ => 0)))] ++ [(q1, .inl (cI, 8, .inl (fun _ => 0)))] ++ [(q2, .inl (cI, 5, .inl (fun _ => 0)))] ++ [(q3, .inl (cI, 8, .inl (fun _ => 0)))] ++ [(q4, .inl (cI, 40, .inl (fun _ => 0)))])) H := hP
  have hD : va_D A ((h0, .inr (1, [.ref q0, .ref q1, .ref q2, .ref q3, .null, .null, .int 0])) :: ([] ++ [(q0, .inl (cI, 8, .inl (fun _ => 0)))] ++ [(q1, .inl (cI, 8, .inl (fun _ => 0)))] ++ [(q2, .inl (cI, 5, .inl (fun _ => 0)))] ++ [(q3, .inl (cI, 8, .inl (fun _ => 0)))] ++ [(q4, .inl (cI, 40, .inl (fun _ => 0)))])) := hD
  refine ci_put X (k := 4) (ty := tyX1 4) rfl (by decide) hP hD hS (gd_t (mt1 148 rfl) rfl) rfl hin (tyX1_ok 4 (by decide)) rfl rfl (Nat.le_of_ble_eq_true rfl) (show decode prog_3_method_1_code 40 = .ok (.putfield 24, 3) by decide +kernel) fun H locs hP hD hS => ?_
  have hP : va_P D vwCl ((h0, .inr (1, [.ref q0, .ref q1, .ref q2, .ref q3, .ref q4, .null, .int 0])) :: ([] ++ [(q0, .inl (cI, 8, .inl (fun _ => 0)))] ++ [(q1, .inl (cI, 8, .inl (fun _ => 0)))] ++ [(q2, .inl (cI, 5, .inl (fun _ => 0)))] ++ [(q3, .inl (cI, 8, .inl (fun _ => 0)))] ++ [(q4, .inl (cI, 40, .inl (fun _ => 0)))])) H := hP
  have hD : va_D A ((h0, .inr (1, [.ref q0, .ref q1, .ref q2, .ref q3, .ref q4, .null, .int 0])) :: ([] ++ [(q0, .inl (cI, 8, .inl (fun _ => 0)))] ++ [(q1, .inl (cI, 8, .inl (fun _ => 0)))] ++ [(q2, .inl (cI, 5, .inl (fun _ => 0)))] ++ [(q3, .inl (cI, 8, .inl (fun _ => 0)))] ++ [(q4, .inl (cI, 40, .inl (fun _ => 0)))])) := hD
  refine lv_aload_n X.1 X.2.1 (show decode prog_3_method_1_code 43 = .ok (.aload_n 0, 1) by decide +kernel) rfl (lv_at hl 0 rfl) ?_
  refine lv_bipush (v := 9) X.1 X.2.1 (show decode prog_3_method_1_code 44 = .ok (.bipush 9, 2) by decide +kernel) (by decide) ?_
  refine ci_int X (N := 9) hP hD hS (by decide) (by decide) (by decide) (Nat.le_of_ble_eq_true rfl) (Nat.le_of_ble_eq_true rfl) (show decode prog_3_method_1_code 46 = .ok (.newarray .int, 2) by decide +kernel) fun q5 H hP hD hS => ?_
  have hP : va_P D vwCl ((h0, .inr (1, [.ref q0, .ref q1, .ref q2, .ref q3, .ref q4, .null, .int 0])) :: ([] ++ [(q0, .inl (cI, 8, .inl (fun _ => 0)))] ++ [(q1, .inl (cI, 8, .inl (fun _ => 0)))] ++ [(q2, .inl (cI, 5, .inl (fun _ => 0)))] ++ [(q3, .inl (cI, 8, .inl (fun _ => 0)))] ++ [(q4, .inl (cI, 40, .inl (fun _ => 0)))] ++ [(q5, .inl (cI, 9, .inl (fun _ => 0)))])) H := hP
  have hD : va_D A ((h0, .inr (1, [.ref q0, .ref q1, .ref q2, .ref q3, .ref q4, .null, .int 0])) :: ([] ++ [(q0, .inl (cI, 8, .inl (fun _ => 0)))] ++ [(q1, .inl (cI, 8, .inl (fun _ => 0)))] ++ [(q2, .inl (cI, 5, .inl (fun _ => 0)))] ++ [(q3, .inl (cI, 8, .inl (fun _ => 0)))] ++ [(q4, .inl (cI, 40, .inl (fun _ => 0)))] ++ [(q5, .inl (cI, 9, .inl (fun _ => 0)))])) := hD
  refine ci_put X (k := 5) (ty := tyX1 5) rfl (by decide) hP hD hS (gd_t (mt1 149 rfl) rfl) rfl hin (tyX1_ok 5 (by decide)) rfl rfl (Nat.le_of_ble_eq_true rfl) (show decode prog_3_method_1_code 48 = .ok (.putfield 27, 3) by decide +kernel) fun H locs hP hD hS => ?_
  have hP : va_P D vwCl ((h0, .inr (1, [.ref q0, .ref q1, .ref q2, .ref q3, .ref q4, .ref q5, .int 0])) :: ([] ++ [(q0, .inl (cI, 8, .inl (fun _ => 0)))] ++ [(q1, .inl (cI, 8, .inl (fun _ => 0)))] ++ [(q2, .inl (cI, 5, .inl (fun _ => 0)))] ++ [(q3, .inl (cI, 8, .inl (fun _ => 0)))] ++ [(q4, .inl (cI, 40, .inl (fun _ => 0)))] ++ [(q5, .inl (cI, 9, .inl (fun _ => 0)))])) H := hP
  have hD : va_D A ((h0, .inr (1, [.ref q0, .ref q1, .ref q2, .ref q3, .ref q4, .ref q5, .int 0])) :: ([] ++ [(q0, .inl (cI, 8, .inl (fun _ => 0)))] ++ [(q1, .inl (cI, 8, .inl (fun _ => 0)))] ++ [(q2, .inl (cI, 5, .inl (fun _ => 0)))] ++ [(q3, .inl (cI, 8, .inl (fun _ => 0)))] ++ [(q4, .inl (cI, 40, .inl (fun _ => 0)))] ++ [(q5, .inl (cI, 9, .inl (fun _ => 0)))])) := hD
  refine lv_aload_n X.1 X.2.1 (show decode prog_3_method_1_code 51 = .ok (.aload_n 0, 1) by decide +kernel) rfl (lv_at hl 0 rfl) ?_
  refine lv_iconst (v := 0) X.1 X.2.1 (show decode prog_3_method_1_code 52 = .ok (.iconst 0, 1) by decide +kernel) (by decide) ?_
  refine ci_put X (k := 6) (ty := tyX1 6) rfl (by decide) hP hD hS (gd_t (mt1 150 rfl) rfl) rfl hin (tyX1_ok 6 (by decide)) rfl rfl (Nat.le_of_ble_eq_true rfl) (show decode prog_3_method_1_code 53 = .ok (.putfield 30, 3) by decide +kernel) fun H locs hP hD hS => ?_
  have hP : va_P D vwCl ((h0, .inr (1, [.ref q0, .ref q1, .ref q2, .ref q3, .ref q4, .ref q5, .int 0])) :: ([] ++ [(q0, .inl (cI, 8, .inl (fun _ => 0)))] ++ [(q1, .inl (cI, 8, .inl (fun _ => 0)))] ++ [(q2, .inl (cI, 5, .inl (fun _ => 0)))] ++ [(q3, .inl (cI, 8, .inl (fun _ => 0)))] ++ [(q4, .inl (cI, 40, .inl (fun _ => 0)))] ++ [(q5, .inl (cI, 9, .inl (fun _ => 0)))])) H := hP
  have hD : va_D A ((h0, .inr (1, [.ref q0, .ref q1, .ref q2, .ref q3, .ref q4, .ref q5, .int 0])) :: ([] ++ [(q0, .inl (cI, 8, .inl (fun _ => 0)))] ++ [(q1, .inl (cI, 8, .inl (fun _ => 0)))] ++ [(q2, .inl (cI, 5, .inl (fun _ => 0)))] ++ [(q3, .inl (cI, 8, .inl (fun _ => 0)))] ++ [(q4, .inl (cI, 40, .inl (fun _ => 0)))] ++ [(q5, .inl (cI, 9, .inl (fun _ => 0)))])) := hD
  exact fin (fun n => ([q0, q1, q2, q3, q4, q5] : List Nat).getD n 0) 56 _ _ _ _ _ (show decode prog_3_method_1_code 56 = .ok (.return_, 1) by decide +kernel) (Nat.le_of_ble_eq_true rfl) (Nat.le_of_ble_eq_true rfl) hP hD hS
def R_2 : RT := fun cI cQ h β => [(h, .inr (2, [.int 0, .ref (β 0), .int 0, .int 0, .ref (β 1)]))] ++ R_0 cI cQ (β 0) (fun n => β (n + 1)) ++ [(β 1, .inl (cI, 100, .inl (fun _ => 0)))]
def rk_2 : Room := { frames := 2, cells := 2, slots := 104, locals := 40 }
set_option maxHeartbeats 4000000 in
set_option maxRecDepth 100000 in
theorem ck_2 (l : Launch) : CIn l ⟨RX2, "<init>", "()V"⟩ prog_4_method_1_code 1 rk_2 2 [.int 0, .null, .int 0, .int 0, .null] R_2 := by
  refine ci_of (by decide) (by decide) ?_
  intro p e s m args below meth c D cI cQ A h0 ls Q X hin hl hP hD fin
  have hin : meth.name = "<init>" := hin
  have hS : va_S A s.heap s.heap [] := va_S.rf
  refine lv_aload_n X.1 X.2.1 (show decode prog_4_method_1_code 0 = .ok (.aload_n 0, 1) by decide +kernel) rfl (lv_at hl 0 rfl) ?_
  refine ci_obj X (gd_t (mt1 228 rfl) rfl) (show decode prog_4_method_1_code 1 = .ok (.invokespecial 3, 3) by decide +kernel) ⟨Nat.le_of_ble_eq_true rfl, Nat.le_of_ble_eq_true rfl⟩ hl.1 ?_
  refine lv_aload_n X.1 X.2.1 (show decode prog_4_method_1_code 4 = .ok (.aload_n 0, 1) by decide +kernel) rfl (lv_at hl 0 rfl) ?_
  refine lv_iconst (v := 0) X.1 X.2.1 (show decode prog_4_method_1_code 5 = .ok (.iconst 0, 1) by decide +kernel) (by decide) ?_
  refine ci_put X (k := 0) (ty := tyX2 0) rfl (by decide) hP hD hS (gd_t (mt1 231 rfl) rfl) rfl hin (tyX2_ok 0 (by decide)) rfl rfl (Nat.le_of_ble_eq_true rfl) (show decode prog_4_method_1_code 6 = .ok (.putfield 11, 3) by decide +kernel) fun H locs hP hD hS => ?_
  have hP : va_P D vwCl ((h0, .inr (2, [.int 0, .null, .int 0, .int 0, .null])) :: ([])) H := hP
  have hD : va_D A ((h0, .inr (2, [.int 0, .null, .int 0, .int 0, .null])) :: ([])) := hD
  refine lv_aload_n X.1 X.2.1 (show decode prog_4_method_1_code 9 = .ok (.aload_n 0, 1) by decide +kernel) rfl (lv_at hl 0 rfl) ?_
  refine ci_new X (ci := 0) rfl (ck_0 l) tyX0 tyX0_ok (by decide +kernel) (gd_t (mt1 229 rfl) rfl) (gd_t (mt1 175 rfl) rfl) (gd_t (mt1 6 rfl) rfl) (gd_t (mt1 178 rfl) rfl) (gd_t (mt1 177 rfl) rfl) (Or.inr (mtN (mt1 230 rfl) rfl)) ⟨by decide, by decide⟩ ⟨Nat.le_of_ble_eq_true rfl, Nat.le_of_ble_eq_true rfl⟩ hP hD hS hl.1 (Nat.le_of_ble_eq_true rfl) (Nat.le_of_ble_eq_true rfl) (Nat.le_of_ble_eq_true rfl) (show decode prog_4_method_1_code 10 = .ok (.new 15, 3) by decide +kernel) (show decode prog_4_method_1_code 13 = .ok (.dup, 1) by decide +kernel) (show decode prog_4_method_1_code 14 = .ok (.invokespecial 17, 3) by decide +kernel) fun q0 b0 H locs hP hD hS => ?_
  have hP : va_P D vwCl ((h0, .inr (2, [.int 0, .null, .int 0, .int 0, .null])) :: ([] ++ R_0 cI cQ q0 b0)) H := hP
  have hD : va_D A ((h0, .inr (2, [.int 0, .null, .int 0, .int 0, .null])) :: ([] ++ R_0 cI cQ q0 b0)) := hD
  refine ci_put X (k := 1) (ty := tyX2 1) rfl (by decide) hP hD hS (gd_t (mt1 233 rfl) rfl) rfl hin (tyX2_ok 1 (by decide)) rfl rfl (Nat.le_of_ble_eq_true rfl) (show decode prog_4_method_1_code 17 = .ok (.putfield 18, 3) by decide +kernel) fun H locs hP hD hS => ?_
  have hP : va_P D vwCl ((h0, .inr (2, [.int 0, .ref q0, .int 0, .int 0, .null])) :: ([] ++ R_0 cI cQ q0 b0)) H := hP
  have hD : va_D A ((h0, .inr (2, [.int 0, .ref q0, .int 0, .int 0, .null])) :: ([] ++ R_0 cI cQ q0 b0)) := hD
  refine lv_aload_n X.1 X.2.1 (show decode prog_4_method_1_code 20 = .ok (.aload_n 0, 1) by decide +kernel) rfl (lv_at hl 0 rfl) ?_
  refine lv_iconst (v := 0) X.1 X.2.1 (show decode prog_4_method_1_code 21 = .ok (.iconst 0, 1) by decide +kernel) (by decide) ?_
  refine ci_put X (k := 2) (ty := tyX2 2) rfl (by decide) hP hD hS (gd_t (mt1 235 rfl) rfl) rfl hin (tyX2_ok 2 (by decide)) rfl rfl (Nat.le_of_ble_eq_true rfl) (show decode prog_4_method_1_code 22 = .ok (.putfield 22, 3) by decide +kernel) fun H locs hP hD hS => ?_
  have hP : va_P D vwCl ((h0, .inr (2, [.int 0, .ref q0, .int 0, .int 0, .null])) :: ([] ++ R_0 cI cQ q0 b0)) H := hP
  have hD : va_D A ((h0, .inr (2, [.int 0, .ref q0, .int 0, .int 0, .null])) :: ([] ++ R_0 cI cQ q0 b0)) := hD
  refine lv_aload_n X.1 X.2.1 (show decode prog_4_method_1_code 25 = .ok (.aload_n 0, 1) by decide +kernel) rfl (lv_at hl 0 rfl) ?_
  refine lv_iconst (v := 0) X.1 X.2.1 (show decode prog_4_method_1_code 26 = .ok (.iconst 0, 1) by decide +kernel) (by decide) ?_
  refine ci_put X (k := 3) (ty := tyX2 3) rfl (by decide) hP hD hS (gd_t (mt1 237 rfl) rfl) rfl hin (tyX2_ok 3 (by decide)) rfl rfl (Nat.le_of_ble_eq_true rfl) (show decode prog_4_method_1_code 27 = .ok (.putfield 25, 3) by decide +kernel) fun H locs hP hD hS => ?_
  have hP : va_P D vwCl ((h0, .inr (2, [.int 0, .ref q0, .int 0, .int 0, .null])) :: ([] ++ R_0 cI cQ q0 b0)) H := hP
  have hD : va_D A ((h0, .inr (2, [.int 0, .ref q0, .int 0, .int 0, .null])) :: ([] ++ R_0 cI cQ q0 b0)) := hD
  refine lv_aload_n X.1 X.2.1 (show decode prog_4_method_1_code 30 = .ok (.aload_n 0, 1) by decide +kernel) rfl (lv_at hl 0 rfl) ?_
  refine lv_bipush (v := 100) X.1 X.2.1 (show decode prog_4_method_1_code 31 = .ok (.bipush 100, 2) by decide +kernel) (by decide) ?_
  refine ci_int X (N := 100) hP hD hS (by decide) (by decide) (by decide) (Nat.le_of_ble_eq_true rfl) (Nat.le_of_ble_eq_true rfl) (show decode prog_4_method_1_code 33 = .ok (.newarray .int, 2) by decide +kernel) fun q1 H hP hD hS => ?_
  have hP : va_P D vwCl ((h0, .inr (2, [.int 0, .ref q0, .int 0, .int 0, .null])) :: ([] ++ R_0 cI cQ q0 b0 ++ [(q1, .inl (cI, 100, .inl (fun _ => 0)))])) H := hP
  have hD : va_D A ((h0, .inr (2, [.int 0, .ref q0, .int 0, .int 0, .null])) :: ([] ++ R_0 cI cQ q0 b0 ++ [(q1, .inl (cI, 100, .inl (fun _ => 0)))])) := hD
  refine ci_put X (k := 4) (ty := tyX2 4) rfl (by decide) hP hD hS (gd_t (mt2 0 rfl) rfl) rfl hin (tyX2_ok 4 (by decide)) rfl rfl (Nat.le_of_ble_eq_true rfl) (show decode prog_4_method_1_code 35 = .ok (.putfield 28, 3) by decide +kernel) fun H locs hP hD hS => ?_
  have hP : va_P D vwCl ((h0, .inr (2, [.int 0, .ref q0, .int 0, .int 0, .ref q1])) :: ([] ++ R_0 cI cQ q0 b0 ++ [(q1, .inl (cI, 100, .inl (fun _ => 0)))])) H := hP
  have hD : va_D A ((h0, .inr (2, [.int 0, .ref q0, .int 0, .int 0, .ref q1])) :: ([] ++ R_0 cI cQ q0 b0 ++ [(q1, .inl (cI, 100, .inl (fun _ => 0)))])) := hD
  exact fin (fun n => ([q0, q1] : List Nat).getD n 0) 38 _ _ _ _ _ (show decode prog_4_method_1_code 38 = .ok (.return_, 1) by decide +kernel) (Nat.le_of_ble_eq_true rfl) (Nat.le_of_ble_eq_true rfl) hP hD hS
def R_5 : RT := fun cI cQ h β => [(h, .inr (5, [.ref (β 0), .ref (β 9), .ref (β 18), .ref (β 19), .ref (β 20), .ref (β 21), .int 0]))] ++ R_3 cI cQ (β 0) (fun n => β (n + 1)) ++ R_3 cI cQ (β 9) (fun n => β (n + 10)) ++ R_0 cI cQ (β 18) (fun n => β (n + 19)) ++ [(β 19, .inl (cI, 8, .inl (fun _ => 0)))] ++ [(β 20, .inl (cI, 3, .inl (fun _ => 0)))] ++ [(β 21, .inl (cI, 8, .inl (fun _ => 0)))]
def rk_5 : Room := { frames := 2, cells := 22, slots := 263, locals := 40 }
set_option maxHeartbeats 4000000 in
set_option maxRecDepth 100000 in
theorem ck_5 (l : Launch) : CIn l ⟨RX5, "<init>", "()V"⟩ prog_7_method_1_code 1 rk_5 5 [.null, .null, .null, .null, .null, .null, .int 0] R_5 := by
  refine ci_of (by decide) (by decide) ?_
  intro p e s m args below meth c D cI cQ A h0 ls Q X hin hl hP hD fin
  have hin : meth.name = "<init>" := hin
  have hS : va_S A s.heap s.heap [] := va_S.rf
  refine lv_aload_n X.1 X.2.1 (show decode prog_7_method_1_code 0 = .ok (.aload_n 0, 1) by decide +kernel) rfl (lv_at hl 0 rfl) ?_
  refine ci_obj X (gd_t (mt1 171 rfl) rfl) (show decode prog_7_method_1_code 1 = .ok (.invokespecial 3, 3) by decide +kernel) ⟨Nat.le_of_ble_eq_true rfl, Nat.le_of_ble_eq_true rfl⟩ hl.1 ?_
  refine lv_aload_n X.1 X.2.1 (show decode prog_7_method_1_code 4 = .ok (.aload_n 0, 1) by decide +kernel) rfl (lv_at hl 0 rfl) ?_
  refine ci_new X (ci := 3) rfl (ck_3 l) tyX3 tyX3_ok (by decide +kernel) (gd_t (mt1 172 rfl) rfl) (gd_t (mt1 28 rfl) rfl) (gd_t (mt1 2 rfl) rfl) (gd_t (mt1 31 rfl) rfl) (gd_t (mt1 30 rfl) rfl) (Or.inr (mtN (mt1 173 rfl) rfl)) ⟨by decide, by decide⟩ ⟨Nat.le_of_ble_eq_true rfl, Nat.le_of_ble_eq_true rfl⟩ hP hD hS hl.1 (Nat.le_of_ble_eq_true rfl) (Nat.le_of_ble_eq_true rfl) (Nat.le_of_ble_eq_true rfl) (show decode prog_7_method_1_code 5 = .ok (.new 9, 3) by decide +kernel) (show decode prog_7_method_1_code 8 = .ok (.dup, 1) by decide +kernel) (show decode prog_7_method_1_code 9 = .ok (.invokespecial 11, 3) by decide +kernel) fun q0 b0 H locs hP hD hS => ?_
  have hP : va_P D vwCl ((h0, .inr (5, [.null, .null, .null, .null, .null, .null, .int 0])) :: ([] ++ R_3 cI cQ q0 b0)) H := hP
  have hD : va_D A ((h0, .inr (5, [.null, .null, .null, .null, .null, .null, .int 0])) :: ([] ++ R_3 cI cQ q0 b0)) := hD
  refine ci_put X (k := 0) (ty := tyX5 0) rfl (by decide) hP hD hS (gd_t (mt1 195 rfl) rfl) rfl hin (tyX5_ok 0 (by decide)) rfl rfl (Nat.le_of_ble_eq_true rfl) (show decode prog_7_method_1_code 12 = .ok (.putfield 12, 3) by decide +kernel) fun H locs hP hD hS => ?_
  have hP : va_P D vwCl ((h0, .inr (5, [.ref q0, .null, .null, .null, .null, .null, .int 0])) :: ([] ++ R_3 cI cQ q0 b0)) H := hP
  have hD : va_D A ((h0, .inr (5, [.ref q0, .null, .null, .null, .null, .null, .int 0])) :: ([] ++ R_3 cI cQ q0 b0)) := hD
  refine lv_aload_n X.1 X.2.1 (show decode prog_7_method_1_code 15 = .ok (.aload_n 0, 1) by decide +kernel) rfl (lv_at hl 0 rfl) ?_
  refine ci_new X (ci := 3) rfl (ck_3 l) tyX3 tyX3_ok (by decide +kernel) (gd_t (mt1 172 rfl) rfl) (gd_t (mt1 28 rfl) rfl) (gd_t (mt1 2 rfl) rfl) (gd_t (mt1 31 rfl) rfl) (gd_t (mt1 30 rfl) rfl) (Or.inr (mtN (mt1 173 rfl) rfl)) ⟨by decide, by decide⟩ ⟨Nat.le_of_ble_eq_true rfl, Nat.le_of_ble_eq_true rfl⟩ hP hD hS hl.1 (Nat.le_of_ble_eq_true rfl) (Nat.le_of_ble_eq_true rfl) (Nat.le_of_ble_eq_true rfl) (show decode prog_7_method_1_code 16 = .ok (.new 9, 3) by decide +kernel) (show decode prog_7_method_1_code 19 = .ok (.dup, 1) by decide +kernel) (show decode prog_7_method_1_code 20 = .ok (.invokespecial 11, 3) by decide +kernel) fun q1 b1 H locs hP hD hS => ?_
  have hP : va_P D vwCl ((h0, .inr (5, [.ref q0, .null, .null, .null, .null, .null, .int 0])) :: ([] ++ R_3 cI cQ q0 b0 ++ R_3 cI cQ q1 b1)) H := hP
  have hD : va_D A ((h0, .inr (5, [.ref q0, .null, .null, .null, .null, .null, .int 0])) :: ([] ++ R_3 cI cQ q0 b0 ++ R_3 cI cQ q1 b1)) := hD
  refine ci_put X (k := 1) (ty := tyX5 1) rfl (by decide) hP hD hS (gd_t (mt1 197 rfl) rfl) rfl hin (tyX5_ok 1 (by decide)) rfl rfl (Nat.le_of_ble_eq_true rfl) (show decode prog_7_method_1_code 23 = .ok (.putfield 18, 3) by decide +kernel) fun H locs hP hD hS => ?_
  have hP : va_P D vwCl ((h0, .inr (5, [.ref q0, .ref q1, .null, .null, .null, .null, .int 0])) :: ([] ++ R_3 cI cQ q0 b0 ++ R_3 cI cQ q1 b1)) H := hP
  have hD : va_D A ((h0, .inr (5, [.ref q0, .ref q1, .null, .null, .null, .null, .int 0])) :: ([] ++ R_3 cI cQ q0 b0 ++ R_3 cI cQ q1 b1)) := hD
  refine lv_aload_n X.1 X.2.1 (show decode prog_7_method_1_code 26 = .ok (.aload_n 0, 1) by decide +kernel) rfl (lv_at hl 0 rfl) ?_
  refine ci_new X (ci := 0) rfl (ck_0 l) tyX0 tyX0_ok (by decide +kernel) (gd_t (mt1 174 rfl) rfl) (gd_t (mt1 175 rfl) rfl) (gd_t (mt1 6 rfl) rfl) (gd_t (mt1 178 rfl) rfl) (gd_t (mt1 177 rfl) rfl) (Or.inr (mtN (mt1 176 rfl) rfl)) ⟨by decide, by decide⟩ ⟨Nat.le_of_ble_eq_true rfl, Nat.le_of_ble_eq_true rfl⟩ hP hD hS hl.1 (Nat.le_of_ble_eq_true rfl) (Nat.le_of_ble_eq_true rfl) (Nat.le_of_ble_eq_true rfl) (show decode prog_7_method_1_code 27 = .ok (.new 21, 3) by decide +kernel) (show decode prog_7_method_1_code 30 = .ok (.dup, 1) by decide +kernel) (show decode prog_7_method_1_code 31 = .ok (.invokespecial 23, 3) by decide +kernel) fun q2 b2 H locs hP hD hS => ?_
  have hP : va_P D vwCl ((h0, .inr (5, [.ref q0, .ref q1, .null, .null, .null, .null, .int 0])) :: ([] ++ R_3 cI cQ q0 b0 ++ R_3 cI cQ q1 b1 ++ R_0 cI cQ q2 b2)) H := hP
  have hD : va_D A ((h0, .inr (5, [.ref q0, .ref q1, .null, .null, .null, .null, .int 0])) :: ([] ++ R_3 cI cQ q0 b0 ++ R_3 cI cQ q1 b1 ++ R_0 cI cQ q2 b2)) := hD
  refine ci_put X (k := 2) (ty := tyX5 2) rfl (by decide) hP hD hS (gd_t (mt1 199 rfl) rfl) rfl hin (tyX5_ok 2 (by decide)) rfl rfl (Nat.le_of_ble_eq_true rfl) (show decode prog_7_method_1_code 34 = .ok (.putfield 24, 3) by decide +kernel) fun H locs hP hD hS => ?_
  have hP : va_P D vwCl ((h0, .inr (5, [.ref q0, .ref q1, .ref q2, .null, .null, .null, .int 0])) :: ([] ++ R_3 cI cQ q0 b0 ++ R_3 cI cQ q1 b1 ++ R_0 cI cQ q2 b2)) H := hP
  have hD : va_D A ((h0, .inr (5, [.ref q0, .ref q1, .ref q2, .null, .null, .null, .int 0])) :: ([] ++ R_3 cI cQ q0 b0 ++ R_3 cI cQ q1 b1 ++ R_0 cI cQ q2 b2)) := hD
  refine lv_aload_n X.1 X.2.1 (show decode prog_7_method_1_code 37 = .ok (.aload_n 0, 1) by decide +kernel) rfl (lv_at hl 0 rfl) ?_
  refine lv_bipush (v := 8) X.1 X.2.1 (show decode prog_7_method_1_code 38 = .ok (.bipush 8, 2) by decide +kernel) (by decide) ?_
  refine ci_int X (N := 8) hP hD hS (by decide) (by decide) (by decide) (Nat.le_of_ble_eq_true rfl) (Nat.le_of_ble_eq_true rfl) (show decode prog_7_method_1_code 40 = .ok (.newarray .int, 2) by decide +kernel) fun q3 H hP hD hS => ?_
  have hP : va_P D vwCl ((h0, .inr (5, [.ref q0, .ref q1, .ref q2, .null, .null, .null, .int 0])) :: ([] ++ R_3 cI cQ q0 b0 ++ R_3 cI cQ q1 b1 ++ R_0 cI cQ q2 b2 ++ [(q3, .inl (cI, 8, .inl (fun _ => 0)))])) H := hP
  have hD : va_D A ((h0, .inr (5, [.ref q0, .ref q1, .ref q2, .null, .null, .null, .int 0])) :: ([] ++ R_3 cI cQ q0 b0 ++ R_3 cI cQ q1 b1 ++ R_0 cI cQ q2 b2 ++ [(q3, .inl (cI, 8, .inl (fun _ => 0)))])) := hD
  refine ci_put X (k := 3) (ty := tyX5 3) rfl (by decide) hP hD hS (gd_t (mt1 200 rfl) rfl) rfl hin (tyX5_ok 3 (by decide)) rfl rfl (Nat.le_of_ble_eq_true rfl) (show decode prog_7_method_1_code 42 = .ok (.putfield 28, 3) by decide +kernel) fun H locs hP hD hS => ?_
  have hP : va_P D vwCl ((h0, .inr (5, [.ref q0, .ref q1, .ref q2, .ref q3, .null, .null, .int 0])) :: ([] ++ R_3 cI cQ q0 b0 ++ R_3 cI cQ q1 b1 ++ R_0 cI cQ q2 b2 ++ [(q3, .inl (cI, 8, .inl (fun _ => 0)))])) H := hP
  have hD : va_D A ((h0, .inr (5, [.ref q0, .ref q1, .ref q2, .ref q3, .null, .null, .int 0])) :: ([] ++ R_3 cI cQ q0 b0 ++ R_3 cI cQ q1 b1 ++ R_0 cI cQ q2 b2 ++ [(q3, .inl (cI, 8, .inl (fun _ => 0)))])) := hD
  refine lv_aload_n X.1 X.2.1 (show decode prog_7_method_1_code 45 = .ok (.aload_n 0, 1) by decide +kernel) rfl (lv_at hl 0 rfl) ?_
  refine lv_iconst (v := 3) X.1 X.2.1 (show decode prog_7_method_1_code 46 = .ok (.iconst 3, 1) by decide +kernel) (by decide) ?_
  refine ci_int X (N := 3) hP hD hS (by decide) (by decide) (by decide) (Nat.le_of_ble_eq_true rfl) (Nat.le_of_ble_eq_true rfl) (show decode prog_7_method_1_code 47 = .ok (.newarray .int, 2) by decide +kernel) fun q4 H hP hD hS => ?_
  have hP : va_P D vwCl ((h0, .inr (5, [.ref q0, .ref q1, .ref q2, .ref q3, .null, .null, .int 0])) :: ([] ++ R_3 cI cQ q0 b0 ++ R_3 cI cQ q1 b1 ++ R_0 cI cQ q2 b2 ++ [(q3, .inl (cI, 8, .inl (fun _ => 0)))] ++ [(q4, .inl (cI, 3, .inl (fun _ => 0)))])) H := hP
  have hD : va_D A ((h0, .inr (5, [.ref q0, .ref q1, .ref q2, .ref q3, .null, .null, .int 0])) :: ([] ++ R_3 cI cQ q0 b0 ++ R_3 cI cQ q1 b1 ++ R_0 cI cQ q2 b2 ++ [(q3, .inl (cI, 8, .inl (fun _ => 0)))] ++ [(q4, .inl (cI, 3, .inl (fun _ => 0)))])) := hD
  refine ci_put X (k := 4) (ty := tyX5 4) rfl (by decide) hP hD hS (gd_t (mt1 201 rfl) rfl) rfl hin (tyX5_ok 4 (by decide)) rfl rfl (Nat.le_of_ble_eq_true rfl) (show decode prog_7_method_1_code 49 = .ok (.putfield 32, 3) by decide +kernel) fun H locs hP hD hS => ?_
  have hP : va_P D vwCl ((h0, .inr (5, [.ref q0, .ref q1, .ref q2, .ref q3, .ref q4, .null, .int 0])) :: ([] ++ R_3 cI cQ q0 b0 ++ R_3 cI cQ q1 b1 ++ R_0 cI cQ q2 b2 ++ [(q3, .inl (cI, 8, .inl (fun _ => 0)))] ++ [(q4, .inl (cI, 3, .inl (fun _ => 0)))])) H := hP
  have hD : va_D A ((h0, .inr (5, [.ref q0, .ref q1, .ref q2, .ref q3, .ref q4, .null, .int 0])) :: ([] ++ R_3 cI cQ q0 b0 ++ R_3 cI cQ q1 b1 ++ R_0 cI cQ q2 b2 ++ [(q3, .inl (cI, 8, .inl (fun _ => 0)))] ++ [(q4, .inl (cI, 3, .inl (fun _ => 0)))])) := hD
  refine lv_aload_n X.1 X.2.1 (show decode prog_7_method_1_code 52 = .ok (.aload_n 0, 1) by decide +kernel) rfl (lv_at hl 0 rfl) ?_
  refine lv_bipush (v := 8) X.1 X.2.1 (show decode prog_7_method_1_code 53 = .ok (.bipush 8, 2) by decide +kernel) (by decide) ?_
  refine ci_int X (N := 8) hP hD hS (by decide) (by decide) (by decide) (Nat.le_of_ble_eq_true rfl) (Nat.le_of_ble_eq_true rfl) (show decode prog_7_method_1_code 55 = .ok (.newarray .int, 2) by decide +kernel) fun q5 H hP hD hS => ?_
  have hP : va_P D vwCl ((h0, .inr (5, [.ref q0, .ref q1, .ref q2, .ref q3, .ref q4, .null, .int 0])) :: ([] ++ R_3 cI cQ q0 b0 ++ R_3 cI cQ q1 b1 ++ R_0 cI cQ q2 b2 ++ [(q3, .inl (cI, 8, .inl (fun _ => 0)))] ++ [(q4, .inl (cI, 3, .inl (fun _ => 0)))] ++ [(q5, .inl (cI, 8, .inl (fun _ => 0)))])) H := hP
  have hD : va_D A ((h0, .inr (5, [.ref q0, .ref q1, .ref q2, .ref q3, .ref q4, .null, .int 0])) :: ([] ++ R_3 cI cQ q0 b0 ++ R_3 cI cQ q1 b1 ++ R_0 cI cQ q2 b2 ++ [(q3, .inl (cI, 8, .inl (fun _ => 0)))] ++ [(q4, .inl (cI, 3, .inl (fun _ => 0)))] ++ [(q5, .inl (cI, 8, .inl (fun _ => 0)))])) := hD
  refine ci_put X (k := 5) (ty := tyX5 5) rfl (by decide) hP hD hS (gd_t (mt1 203 rfl) rfl) rfl hin (tyX5_ok 5 (by decide)) rfl rfl (Nat.le_of_ble_eq_true rfl) (show decode prog_7_method_1_code 57 = .ok (.putfield 35, 3) by decide +kernel) fun H locs hP hD hS => ?_
  have hP : va_P D vwCl ((h0, .inr (5, [.ref q0, .ref q1, .ref q2, .ref q3, .ref q4, .ref q5, .int 0])) :: ([] ++ R_3 cI cQ q0 b0 ++ R_3 cI cQ q1 b1 ++ R_0 cI cQ q2 b2 ++ [(q3, .inl (cI, 8, .inl (fun _ => 0)))] ++ [(q4, .inl (cI, 3, .inl (fun _ => 0)))] ++ [(q5, .inl (cI, 8, .inl (fun _ => 0)))])) H := hP
  have hD : va_D A ((h0, .inr (5, [.ref q0, .ref q1, .ref q2, .ref q3, .ref q4, .ref q5, .int 0])) :: ([] ++ R_3 cI cQ q0 b0 ++ R_3 cI cQ q1 b1 ++ R_0 cI cQ q2 b2 ++ [(q3, .inl (cI, 8, .inl (fun _ => 0)))] ++ [(q4, .inl (cI, 3, .inl (fun _ => 0)))] ++ [(q5, .inl (cI, 8, .inl (fun _ => 0)))])) := hD
  refine lv_aload_n X.1 X.2.1 (show decode prog_7_method_1_code 60 = .ok (.aload_n 0, 1) by decide +kernel) rfl (lv_at hl 0 rfl) ?_
  refine lv_iconst (v := 0) X.1 X.2.1 (show decode prog_7_method_1_code 61 = .ok (.iconst 0, 1) by decide +kernel) (by decide) ?_
  refine ci_put X (k := 6) (ty := tyX5 6) rfl (by decide) hP hD hS (gd_t (mt1 205 rfl) rfl) rfl hin (tyX5_ok 6 (by decide)) rfl rfl (Nat.le_of_ble_eq_true rfl) (show decode prog_7_method_1_code 62 = .ok (.putfield 38, 3) by decide +kernel) fun H locs hP hD hS => ?_
  have hP : va_P D vwCl ((h0, .inr (5, [.ref q0, .ref q1, .ref q2, .ref q3, .ref q4, .ref q5, .int 0])) :: ([] ++ R_3 cI cQ q0 b0 ++ R_3 cI cQ q1 b1 ++ R_0 cI cQ q2 b2 ++ [(q3, .inl (cI, 8, .inl (fun _ => 0)))] ++ [(q4, .inl (cI, 3, .inl (fun _ => 0)))] ++ [(q5, .inl (cI, 8, .inl (fun _ => 0)))])) H := hP
  have hD : va_D A ((h0, .inr (5, [.ref q0, .ref q1, .ref q2, .ref q3, .ref q4, .ref q5, .int 0])) :: ([] ++ R_3 cI cQ q0 b0 ++ R_3 cI cQ q1 b1 ++ R_0 cI cQ q2 b2 ++ [(q3, .inl (cI, 8, .inl (fun _ => 0)))] ++ [(q4, .inl (cI, 3, .inl (fun _ => 0)))] ++ [(q5, .inl (cI, 8, .inl (fun _ => 0)))])) := hD
  exact fin (fun n => ([q0, b0 0, b0 1, b0 2, b0 3, b0 4, b0 5, b0 6, b0 7, q1, b1 0, b1 1, b1 2, b1 3, b1 4, b1 5, b1 6, b1 7, q2, q3, q4, q5] : List Nat).getD n 0) 65 _ _ _ _ _ (show decode prog_7_method_1_code 65 = .ok (.return_, 1) by decide +kernel) (Nat.le_of_ble_eq_true rfl) (Nat.le_of_ble_eq_true rfl) hP hD hS
