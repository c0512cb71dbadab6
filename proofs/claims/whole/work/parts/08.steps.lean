set_option maxRecDepth 100000 in
theorem hin_0 : ∀ w ∈ u_ws RX0 TX0 4, w ∈ lw_good := by
  show ∀ w ∈ [u_lay RX0 TX0 0, u_lay RX0 TX0 1, u_lay RX0 TX0 2, u_lay RX0 TX0 3], w ∈ lw_good
  exact (List.forall_mem_cons.mpr ⟨(gd_t (mt1 186 rfl) rfl : u_lay RX0 TX0 0 ∈ lw_good), (List.forall_mem_cons.mpr ⟨(gd_t (mt1 188 rfl) rfl : u_lay RX0 TX0 1 ∈ lw_good), (List.forall_mem_cons.mpr ⟨(gd_t (mt1 190 rfl) rfl : u_lay RX0 TX0 2 ∈ lw_good), (List.forall_mem_cons.mpr ⟨(gd_t (mt1 192 rfl) rfl : u_lay RX0 TX0 3 ∈ lw_good), (fun _ h => absurd h List.not_mem_nil)⟩)⟩)⟩)⟩)
set_option maxRecDepth 100000 in
theorem hin_1 : ∀ w ∈ u_ws RX1 TX1 7, w ∈ lw_good := by
  show ∀ w ∈ [u_lay RX1 TX1 0, u_lay RX1 TX1 1, u_lay RX1 TX1 2, u_lay RX1 TX1 3, u_lay RX1 TX1 4, u_lay RX1 TX1 5, u_lay RX1 TX1 6], w ∈ lw_good
  exact (List.forall_mem_cons.mpr ⟨(gd_t (mt1 151 rfl) rfl : u_lay RX1 TX1 0 ∈ lw_good), (List.forall_mem_cons.mpr ⟨(gd_t (mt1 153 rfl) rfl : u_lay RX1 TX1 1 ∈ lw_good), (List.forall_mem_cons.mpr ⟨(gd_t (mt1 155 rfl) rfl : u_lay RX1 TX1 2 ∈ lw_good), (List.forall_mem_cons.mpr ⟨(gd_t (mt1 157 rfl) rfl : u_lay RX1 TX1 3 ∈ lw_good), (List.forall_mem_cons.mpr ⟨(gd_t (mt1 159 rfl) rfl : u_lay RX1 TX1 4 ∈ lw_good), (List.forall_mem_cons.mpr ⟨(gd_t (mt1 161 rfl) rfl : u_lay RX1 TX1 5 ∈ lw_good), (List.forall_mem_cons.mpr ⟨(gd_t (mt1 163 rfl) rfl : u_lay RX1 TX1 6 ∈ lw_good), (fun _ h => absurd h List.not_mem_nil)⟩)⟩)⟩)⟩)⟩)⟩)⟩)
set_option maxRecDepth 100000 in
theorem hin_2 : ∀ w ∈ u_ws RX2 TX2 5, w ∈ lw_good := by
  show ∀ w ∈ [u_lay RX2 TX2 0, u_lay RX2 TX2 1, u_lay RX2 TX2 2, u_lay RX2 TX2 3, u_lay RX2 TX2 4], w ∈ lw_good
  exact (List.forall_mem_cons.mpr ⟨(gd_t (mt2 4 rfl) rfl : u_lay RX2 TX2 0 ∈ lw_good), (List.forall_mem_cons.mpr ⟨(gd_t (mt2 6 rfl) rfl : u_lay RX2 TX2 1 ∈ lw_good), (List.forall_mem_cons.mpr ⟨(gd_t (mt2 8 rfl) rfl : u_lay RX2 TX2 2 ∈ lw_good), (List.forall_mem_cons.mpr ⟨(gd_t (mt2 10 rfl) rfl : u_lay RX2 TX2 3 ∈ lw_good), (List.forall_mem_cons.mpr ⟨(gd_t (mt2 12 rfl) rfl : u_lay RX2 TX2 4 ∈ lw_good), (fun _ h => absurd h List.not_mem_nil)⟩)⟩)⟩)⟩)⟩)
set_option maxRecDepth 100000 in
theorem hin_3 : ∀ w ∈ u_ws RX3 TX3 13, w ∈ lw_good := by
  show ∀ w ∈ [u_lay RX3 TX3 0, u_lay RX3 TX3 1, u_lay RX3 TX3 2, u_lay RX3 TX3 3, u_lay RX3 TX3 4, u_lay RX3 TX3 5, u_lay RX3 TX3 6, u_lay RX3 TX3 7, u_lay RX3 TX3 8, u_lay RX3 TX3 9, u_lay RX3 TX3 10, u_lay RX3 TX3 11, u_lay RX3 TX3 12], w ∈ lw_good
  exact (List.forall_mem_cons.mpr ⟨(gd_t (mt1 75 rfl) rfl : u_lay RX3 TX3 0 ∈ lw_good), (List.forall_mem_cons.mpr ⟨(gd_t (mt1 77 rfl) rfl : u_lay RX3 TX3 1 ∈ lw_good), (List.forall_mem_cons.mpr ⟨(gd_t (mt1 79 rfl) rfl : u_lay RX3 TX3 2 ∈ lw_good), (List.forall_mem_cons.mpr ⟨(gd_t (mt1 81 rfl) rfl : u_lay RX3 TX3 3 ∈ lw_good), (List.forall_mem_cons.mpr ⟨(gd_t (mt1 83 rfl) rfl : u_lay RX3 TX3 4 ∈ lw_good), (List.forall_mem_cons.mpr ⟨(gd_t (mt1 85 rfl) rfl : u_lay RX3 TX3 5 ∈ lw_good), (List.forall_mem_cons.mpr ⟨(gd_t (mt1 87 rfl) rfl : u_lay RX3 TX3 6 ∈ lw_good), (List.forall_mem_cons.mpr ⟨(gd_t (mt1 89 rfl) rfl : u_lay RX3 TX3 7 ∈ lw_good), (List.forall_mem_cons.mpr ⟨(gd_t (mt1 91 rfl) rfl : u_lay RX3 TX3 8 ∈ lw_good), (List.forall_mem_cons.mpr ⟨(gd_t (mt1 93 rfl) rfl : u_lay RX3 TX3 9 ∈ lw_good), (List.forall_mem_cons.mpr ⟨(gd_t (mt1 95 rfl) rfl : u_lay RX3 TX3 10 ∈ lw_good), (List.forall_mem_cons.mpr ⟨(gd_t (mt1 97 rfl) rfl : u_lay RX3 TX3 11 ∈ lw_good), (List.forall_mem_cons.mpr ⟨(gd_t (mt1 99 rfl) rfl : u_lay RX3 TX3 12 ∈ lw_good), (fun _ h => absurd h List.not_mem_nil)⟩)⟩)⟩)⟩)⟩)⟩)⟩)⟩)⟩)⟩)⟩)⟩)⟩)
set_option maxRecDepth 100000 in
theorem hin_4 : ∀ w ∈ u_ws RX4 TX4 9, w ∈ lw_good := by
  show ∀ w ∈ [u_lay RX4 TX4 0, u_lay RX4 TX4 1, u_lay RX4 TX4 2, u_lay RX4 TX4 3, u_lay RX4 TX4 4, u_lay RX4 TX4 5, u_lay RX4 TX4 6, u_lay RX4 TX4 7, u_lay RX4 TX4 8], w ∈ lw_good
  exact (List.forall_mem_cons.mpr ⟨(gd_t (mt1 118 rfl) rfl : u_lay RX4 TX4 0 ∈ lw_good), (List.forall_mem_cons.mpr ⟨(gd_t (mt1 120 rfl) rfl : u_lay RX4 TX4 1 ∈ lw_good), (List.forall_mem_cons.mpr ⟨(gd_t (mt1 122 rfl) rfl : u_lay RX4 TX4 2 ∈ lw_good), (List.forall_mem_cons.mpr ⟨(gd_t (mt1 124 rfl) rfl : u_lay RX4 TX4 3 ∈ lw_good), (List.forall_mem_cons.mpr ⟨(gd_t (mt1 126 rfl) rfl : u_lay RX4 TX4 4 ∈ lw_good), (List.forall_mem_cons.mpr ⟨(gd_t (mt1 128 rfl) rfl : u_lay RX4 TX4 5 ∈ lw_good), (List.forall_mem_cons.mpr ⟨(gd_t (mt1 130 rfl) rfl : u_lay RX4 TX4 6 ∈ lw_good), (List.forall_mem_cons.mpr ⟨(gd_t (mt1 132 rfl) rfl : u_lay RX4 TX4 7 ∈ lw_good), (List.forall_mem_cons.mpr ⟨(gd_t (mt1 134 rfl) rfl : u_lay RX4 TX4 8 ∈ lw_good), (fun _ h => absurd h List.not_mem_nil)⟩)⟩)⟩)⟩)⟩)⟩)⟩)⟩)⟩)
set_option maxRecDepth 100000 in
theorem hin_5 : ∀ w ∈ u_ws RX5 TX5 7, w ∈ lw_good := by
  show ∀ w ∈ [u_lay RX5 TX5 0, u_lay RX5 TX5 1, u_lay RX5 TX5 2, u_lay RX5 TX5 3, u_lay RX5 TX5 4, u_lay RX5 TX5 5, u_lay RX5 TX5 6], w ∈ lw_good
  exact (List.forall_mem_cons.mpr ⟨(gd_t (mt1 207 rfl) rfl : u_lay RX5 TX5 0 ∈ lw_good), (List.forall_mem_cons.mpr ⟨(gd_t (mt1 209 rfl) rfl : u_lay RX5 TX5 1 ∈ lw_good), (List.forall_mem_cons.mpr ⟨(gd_t (mt1 211 rfl) rfl : u_lay RX5 TX5 2 ∈ lw_good), (List.forall_mem_cons.mpr ⟨(gd_t (mt1 213 rfl) rfl : u_lay RX5 TX5 3 ∈ lw_good), (List.forall_mem_cons.mpr ⟨(gd_t (mt1 215 rfl) rfl : u_lay RX5 TX5 4 ∈ lw_good), (List.forall_mem_cons.mpr ⟨(gd_t (mt1 217 rfl) rfl : u_lay RX5 TX5 5 ∈ lw_good), (List.forall_mem_cons.mpr ⟨(gd_t (mt1 219 rfl) rfl : u_lay RX5 TX5 6 ∈ lw_good), (fun _ h => absurd h List.not_mem_nil)⟩)⟩)⟩)⟩)⟩)⟩)⟩)
set_option maxRecDepth 100000 in
theorem hin_6 : ∀ w ∈ u_ws RX6 TX6 8, w ∈ lw_good := by
  show ∀ w ∈ [u_lay RX6 TX6 0, u_lay RX6 TX6 1, u_lay RX6 TX6 2, u_lay RX6 TX6 3, u_lay RX6 TX6 4, u_lay RX6 TX6 5, u_lay RX6 TX6 6, u_lay RX6 TX6 7], w ∈ lw_good
  exact (List.forall_mem_cons.mpr ⟨(gd_t (mt2 23 rfl) rfl : u_lay RX6 TX6 0 ∈ lw_good), (List.forall_mem_cons.mpr ⟨(gd_t (mt2 25 rfl) rfl : u_lay RX6 TX6 1 ∈ lw_good), (List.forall_mem_cons.mpr ⟨(gd_t (mt2 27 rfl) rfl : u_lay RX6 TX6 2 ∈ lw_good), (List.forall_mem_cons.mpr ⟨(gd_t (mt2 29 rfl) rfl : u_lay RX6 TX6 3 ∈ lw_good), (List.forall_mem_cons.mpr ⟨(gd_t (mt2 31 rfl) rfl : u_lay RX6 TX6 4 ∈ lw_good), (List.forall_mem_cons.mpr ⟨(gd_t (mt2 33 rfl) rfl : u_lay RX6 TX6 5 ∈ lw_good), (List.forall_mem_cons.mpr ⟨(gd_t (mt2 35 rfl) rfl : u_lay RX6 TX6 6 ∈ lw_good), (List.forall_mem_cons.mpr ⟨(gd_t (mt2 37 rfl) rfl : u_lay RX6 TX6 7 ∈ lw_good), (fun _ h => absurd h List.not_mem_nil)⟩)⟩)⟩)⟩)⟩)⟩)⟩)⟩)
set_option maxRecDepth 100000 in
theorem hin_7 : ∀ w ∈ u_ws RX7 TX7 40, w ∈ lw_good := by
  show ∀ w ∈ [u_lay RX7 TX7 0, u_lay RX7 TX7 1, u_lay RX7 TX7 2, u_lay RX7 TX7 3, u_lay RX7 TX7 4, u_lay RX7 TX7 5, u_lay RX7 TX7 6, u_lay RX7 TX7 7, u_lay RX7 TX7 8, u_lay RX7 TX7 9, u_lay RX7 TX7 10, u_lay RX7 TX7 11, u_lay RX7 TX7 12, u_lay RX7 TX7 13, u_lay RX7 TX7 14, u_lay RX7 TX7 15, u_lay RX7 TX7 16, u_lay RX7 TX7 17, u_lay RX7 TX7 18, u_lay RX7 TX7 19, u_lay RX7 TX7 20, u_lay RX7 TX7 21, u_lay RX7 TX7 22, u_lay RX7 TX7 23, u_lay RX7 TX7 24, u_lay RX7 TX7 25, u_lay RX7 TX7 26, u_lay RX7 TX7 27, u_lay RX7 TX7 28, u_lay RX7 TX7 29, u_lay RX7 TX7 30, u_lay RX7 TX7 31, u_lay RX7 TX7 32, u_lay RX7 TX7 33, u_lay RX7 TX7 34, u_lay RX7 TX7 35, u_lay RX7 TX7 36, u_lay RX7 TX7 37, u_lay RX7 TX7 38, u_lay RX7 TX7 39], w ∈ lw_good
  exact (List.forall_mem_cons.mpr ⟨(gd_t (mt5 108 rfl) rfl : u_lay RX7 TX7 0 ∈ lw_good), (List.forall_mem_cons.mpr ⟨(gd_t (mt5 110 rfl) rfl : u_lay RX7 TX7 1 ∈ lw_good), (List.forall_mem_cons.mpr ⟨(gd_t (mt5 112 rfl) rfl : u_lay RX7 TX7 2 ∈ lw_good), (List.forall_mem_cons.mpr ⟨(gd_t (mt5 114 rfl) rfl : u_lay RX7 TX7 3 ∈ lw_good), (List.forall_mem_cons.mpr ⟨(gd_t (mt5 116 rfl) rfl : u_lay RX7 TX7 4 ∈ lw_good), (List.forall_mem_cons.mpr ⟨(gd_t (mt5 118 rfl) rfl : u_lay RX7 TX7 5 ∈ lw_good), (List.forall_mem_cons.mpr ⟨(gd_t (mt5 120 rfl) rfl : u_lay RX7 TX7 6 ∈ lw_good), (List.forall_mem_cons.mpr ⟨(gd_t (mt5 122 rfl) rfl : u_lay RX7 TX7 7 ∈ lw_good), (List.forall_mem_cons.mpr ⟨(gd_t (mt5 124 rfl) rfl : u_lay RX7 TX7 8 ∈ lw_good), (List.forall_mem_cons.mpr ⟨(gd_t (mt5 126 rfl) rfl : u_lay RX7 TX7 9 ∈ lw_good), (List.forall_mem_cons.mpr ⟨(gd_t (mt5 128 rfl) rfl : u_lay RX7 TX7 10 ∈ lw_good), (List.forall_mem_cons.mpr ⟨(gd_t (mt5 130 rfl) rfl : u_lay RX7 TX7 11 ∈ lw_good), (List.forall_mem_cons.mpr ⟨(gd_t (mt5 132 rfl) rfl : u_lay RX7 TX7 12 ∈ lw_good), (List.forall_mem_cons.mpr ⟨(gd_t (mt5 134 rfl) rfl : u_lay RX7 TX7 13 ∈ lw_good), (List.forall_mem_cons.mpr ⟨(gd_t (mt5 136 rfl) rfl : u_lay RX7 TX7 14 ∈ lw_good), (List.forall_mem_cons.mpr ⟨(gd_t (mt5 138 rfl) rfl : u_lay RX7 TX7 15 ∈ lw_good), (List.forall_mem_cons.mpr ⟨(gd_t (mt5 140 rfl) rfl : u_lay RX7 TX7 16 ∈ lw_good), (List.forall_mem_cons.mpr ⟨(gd_t (mt5 142 rfl) rfl : u_lay RX7 TX7 17 ∈ lw_good), (List.forall_mem_cons.mpr ⟨(gd_t (mt5 144 rfl) rfl : u_lay RX7 TX7 18 ∈ lw_good), (List.forall_mem_cons.mpr ⟨(gd_t (mt5 146 rfl) rfl : u_lay RX7 TX7 19 ∈ lw_good), (List.forall_mem_cons.mpr ⟨(gd_t (mt5 148 rfl) rfl : u_lay RX7 TX7 20 ∈ lw_good), (List.forall_mem_cons.mpr ⟨(gd_t (mt5 150 rfl) rfl : u_lay RX7 TX7 21 ∈ lw_good), (List.forall_mem_cons.mpr ⟨(gd_t (mt5 152 rfl) rfl : u_lay RX7 TX7 22 ∈ lw_good), (List.forall_mem_cons.mpr ⟨(gd_t (mt5 154 rfl) rfl : u_lay RX7 TX7 23 ∈ lw_good), (List.forall_mem_cons.mpr ⟨(gd_t (mt5 156 rfl) rfl : u_lay RX7 TX7 24 ∈ lw_good), (List.forall_mem_cons.mpr ⟨(gd_t (mt5 158 rfl) rfl : u_lay RX7 TX7 25 ∈ lw_good), (List.forall_mem_cons.mpr ⟨(gd_t (mt5 160 rfl) rfl : u_lay RX7 TX7 26 ∈ lw_good), (List.forall_mem_cons.mpr ⟨(gd_t (mt5 162 rfl) rfl : u_lay RX7 TX7 27 ∈ lw_good), (List.forall_mem_cons.mpr ⟨(gd_t (mt5 164 rfl) rfl : u_lay RX7 TX7 28 ∈ lw_good), (List.forall_mem_cons.mpr ⟨(gd_t (mt5 166 rfl) rfl : u_lay RX7 TX7 29 ∈ lw_good), (List.forall_mem_cons.mpr ⟨(gd_t (mt5 168 rfl) rfl : u_lay RX7 TX7 30 ∈ lw_good), (List.forall_mem_cons.mpr ⟨(gd_t (mt5 170 rfl) rfl : u_lay RX7 TX7 31 ∈ lw_good), (List.forall_mem_cons.mpr ⟨(gd_t (mt5 172 rfl) rfl : u_lay RX7 TX7 32 ∈ lw_good), (List.forall_mem_cons.mpr ⟨(gd_t (mt5 174 rfl) rfl : u_lay RX7 TX7 33 ∈ lw_good), (List.forall_mem_cons.mpr ⟨(gd_t (mt5 176 rfl) rfl : u_lay RX7 TX7 34 ∈ lw_good), (List.forall_mem_cons.mpr ⟨(gd_t (mt5 178 rfl) rfl : u_lay RX7 TX7 35 ∈ lw_good), (List.forall_mem_cons.mpr ⟨(gd_t (mt5 180 rfl) rfl : u_lay RX7 TX7 36 ∈ lw_good), (List.forall_mem_cons.mpr ⟨(gd_t (mt5 182 rfl) rfl : u_lay RX7 TX7 37 ∈ lw_good), (List.forall_mem_cons.mpr ⟨(gd_t (mt5 184 rfl) rfl : u_lay RX7 TX7 38 ∈ lw_good), (List.forall_mem_cons.mpr ⟨(gd_t (mt5 186 rfl) rfl : u_lay RX7 TX7 39 ∈ lw_good), (fun _ h => absurd h List.not_mem_nil)⟩)⟩)⟩)⟩)⟩)⟩)⟩)⟩)⟩)⟩)⟩)⟩)⟩)⟩)⟩)⟩)⟩)⟩)⟩)⟩)⟩)⟩)⟩)⟩)⟩)⟩)⟩)⟩)⟩)⟩)⟩)⟩)⟩)⟩)⟩)⟩)⟩)⟩)⟩)⟩)
def VWF (ci : Nat) (C : String) (T : u_T) (N : Nat) : Prop := N = NFl.getD ci 0 ∧ ci < 8 ∧ C = CN ci ∧ (∀ w ∈ u_ws C T N, w ∈ lw_good) ∧ (∃ ty : Nat → FieldType, ∀ k, k < N → parseFieldDescriptor (T k).2.2.1 = some (ty k)) ∧ (∀ a, a < N → ∀ b, b < N → a ≠ b → (T a).2.1 ≠ (T b).2.1) ∧ ∀ k, k < N → (FK ci k = 0 ∧ (T k).2.2.1 = "I" ∧ (T k).2.2.2 = false) ∨ (FK ci k = 1 ∧ (T k).2.2.1 = "Z" ∧ (T k).2.2.2 = false) ∨ (FK ci k = 2 ∧ (T k).2.2.1 = "[I" ∧ (T k).2.2.2 = false) ∨ FK ci k = 3
theorem vwf_0 : VWF 0 RX0 TX0 4 := ⟨rfl, by decide, rfl, hin_0, ⟨tyX0, tyX0_ok⟩, nmX0, by decide +kernel⟩
theorem vwf_1 : VWF 1 RX1 TX1 7 := ⟨rfl, by decide, rfl, hin_1, ⟨tyX1, tyX1_ok⟩, nmX1, by decide +kernel⟩
theorem vwf_2 : VWF 2 RX2 TX2 5 := ⟨rfl, by decide, rfl, hin_2, ⟨tyX2, tyX2_ok⟩, nmX2, by decide +kernel⟩
theorem vwf_3 : VWF 3 RX3 TX3 13 := ⟨rfl, by decide, rfl, hin_3, ⟨tyX3, tyX3_ok⟩, nmX3, by decide +kernel⟩
theorem vwf_4 : VWF 4 RX4 TX4 9 := ⟨rfl, by decide, rfl, hin_4, ⟨tyX4, tyX4_ok⟩, nmX4, by decide +kernel⟩
theorem vwf_5 : VWF 5 RX5 TX5 7 := ⟨rfl, by decide, rfl, hin_5, ⟨tyX5, tyX5_ok⟩, nmX5, by decide +kernel⟩
theorem vwf_6 : VWF 6 RX6 TX6 8 := ⟨rfl, by decide, rfl, hin_6, ⟨tyX6, tyX6_ok⟩, nmX6, by decide +kernel⟩
theorem vwf_7 : VWF 7 RX7 TX7 40 := ⟨rfl, by decide, rfl, hin_7, ⟨tyX7, tyX7_ok⟩, nmX7, by decide +kernel⟩
theorem vwf_of {ci : Nat} {C : String} {T : u_T} {N : Nat} (h : vwCl[ci]? = some (C, T, N)) : VWF ci C T N := by
  match ci, h with
  | 0, h => cases h; exact vwf_0
  | 1, h => cases h; exact vwf_1
  | 2, h => cases h; exact vwf_2
  | 3, h => cases h; exact vwf_3
  | 4, h => cases h; exact vwf_4
  | 5, h => cases h; exact vwf_5
  | 6, h => cases h; exact vwf_6
  | 7, h => cases h; exact vwf_7
  | k + 8, h => simp [vwCl] at h
theorem clsP_spec {ci a : Nat} {X : Prop} (h : clsP ci a X) : CLS a = ci ∧ X := by
  unfold clsP at h
  split at h
  · exact h
  · exact h
  · exact h
  · split at h
    · next e => exact ⟨Nat.eq_of_beq_eq_true e, h⟩
    · exact h.elim
def Wd (D : va_G) (cI cQ : ClassId) (α : Nat → Nat) (σ : Sg) (U : State) : Prop := va_P D vwCl (WS cI cQ α σ) U.heap ∧ va_K D vwCl (tyl cI cQ) U ∧ NWs U
def QM (rk : Nat) (K : Kt) (D : va_G) (cI cQ : ClassId) (α : Nat → Nat) (A : Nat → Prop) : Array Value → State → Outcome → State → Prop := match rk with
  | 0 => va_Qv (fun u : Sg => K 0 u ∧ RS u) (fun u t => Wd D cI cQ α u t) A
  | 3 => va_Ql (fun (r : Int64) (u : Sg) => (K r.toInt u ∧ R32 r.toInt) ∧ RS u) (fun u t => Wd D cI cQ α u t) A
  | _ => va_Qi (fun (r : Int32) (u : Sg) => K r.toInt u ∧ RS u) (fun u t => Wd D cI cQ α u t) A
def Cx (p : Program) (s : State) (m : MethodId) (args : Array Value) (meth : Method) (c : Code) (M : Mi) (D : va_G) (cI cQ : ClassId) (α : Nat → Nat) (A : Nat → Prop) : Prop :=
  p.tables.exec = Jvm.exec ∧ c.code = M.2.2.2.2.1 ∧ c.maxLocals = M.2.2.2.2.2.1 ∧ meth.sig.returnType = M.2.2.2.2.2.2.1 ∧ meth.locks = false ∧ s.vm.findClass (CN M.2.2.1) = some m.cls ∧ (∀ w ∈ lw_good, w.before args s = true) ∧ va_K D vwCl (tyl cI cQ) s ∧ NWs s ∧ (∀ q : Nat, s.heap.size ≤ q → A q) ∧ va_D A (WS cI cQ α (fun _ _ => 0)) ∧ MOK M
def PW (p : Program) (l : Launch) (e : Env) (R : Room) (s : State) (m : MethodId) (args : Array Value) (below : List Frame) (meth : Method) (c : Code) (M : Mi) (D : va_G) (cI cQ : ClassId) (α : Nat → Nat) (A : Nat → Prop) (Q : State → Prop) : Pt3 := fun pc L S σ =>
  L.length = M.2.2.2.2.2.1 → ∀ (H : Heap) (locs : List Loc) (ls : Array Slot), va_P D vwCl (WS cI cQ α σ) H → va_S A s.heap H locs → lvR α ls L → RL L → RL S → RS σ → W p l e R s m args below meth c H locs 0 0 Q (F0 m pc ls (S.map (tr α)))
theorem ac_native : Cond.native arraycopyName ∈ lw_good := gd_t (mt2 61 rfl) rfl
theorem ac_static : Cond.static arraycopyName ∈ lw_good := gd_t (mt2 60 rfl) rfl
theorem ac_init : Cond.initialized "java/lang/System" ∈ lw_good := gd_t (mt1 9 rfl) rfl
theorem mx_static : Cond.static Lib.Math.max.name ∈ lw_good := gd_t (mt3 172 rfl) rfl
theorem mx_init : Cond.initialized "java/lang/Math" ∈ lw_good := gd_t (mt1 12 rfl) rfl
theorem mx_code : Cond.code Lib.Math.max.name Lib.Math.max.code 2 (some .int) ∈ lw_good := gd_t (mt3 173 rfl) rfl
section SND
variable {p : Program} {l : Launch} {e : Env} {R : Room} {s : State} {m : MethodId} {args : Array Value} {below : List Frame} {meth : Method} {c : Code} {M : Mi} {D : va_G} {cI cQ : ClassId} {α : Nat → Nat} {A : Nat → Prop} {Q : State → Prop} {pc nx : Nat} {L S : List Av} {σ : Sg}
theorem zs_iload {k : Nat} (X : Cx p s m args meth c M D cI cQ α A) (hd : decode M.2.2.2.2.1 pc = .ok (.iload k, 2)) (h : pLd (PW p l e R s m args below meth c M D cI cQ α A Q) (pc + 2) L S σ 0 k) : PW p l e R s m args below meth c M D cI cQ α A Q pc L S σ := by
  intro hlen H locs ls hP hS hl rL rS rσ
  unfold pLd at h
  split at h
  · next e1 =>
    refine lv_iload X.1 X.2.1 hd (hl.2.2 _ _ e1 (fun q => nomatch q)) ?_
    exact h hlen H locs ls hP hS hl rL (RL_cons (rL _ (nth_mem e1)) rS) rσ
  · next e1 e2 => exact absurd e1 (by decide)
  · next e1 e2 => exact absurd e1 (by decide)
  · exact h.elim
theorem zs_iload_n {k : Fin 4} (X : Cx p s m args meth c M D cI cQ α A) (hd : decode M.2.2.2.2.1 pc = .ok (.iload_n k, 1)) (h : pLd (PW p l e R s m args below meth c M D cI cQ α A Q) (pc + 1) L S σ 0 k.val) : PW p l e R s m args below meth c M D cI cQ α A Q pc L S σ := by
  intro hlen H locs ls hP hS hl rL rS rσ
  unfold pLd at h
  split at h
  · next e1 =>
    refine lv_iload_n X.1 X.2.1 hd rfl (hl.2.2 _ _ e1 (fun q => nomatch q)) ?_
    exact h hlen H locs ls hP hS hl rL (RL_cons (rL _ (nth_mem e1)) rS) rσ
  · next e1 e2 => exact absurd e1 (by decide)
  · next e1 e2 => exact absurd e1 (by decide)
  · exact h.elim
theorem zs_aload {k : Nat} (X : Cx p s m args meth c M D cI cQ α A) (hd : decode M.2.2.2.2.1 pc = .ok (.aload k, 2)) (h : pLd (PW p l e R s m args below meth c M D cI cQ α A Q) (pc + 2) L S σ 1 k) : PW p l e R s m args below meth c M D cI cQ α A Q pc L S σ := by
  intro hlen H locs ls hP hS hl rL rS rσ
  unfold pLd at h
  split at h
  · next e1 e2 => exact absurd e1 (by decide)
  · next e1 =>
    refine lv_aload X.1 X.2.1 hd (hl.2.2 _ _ e1 (fun q => nomatch q)) ?_
    exact h hlen H locs ls hP hS hl rL (RL_cons (rL _ (nth_mem e1)) rS) rσ
  · next e1 e2 => exact absurd e1 (by decide)
  · exact h.elim
theorem zs_aload_n {k : Fin 4} (X : Cx p s m args meth c M D cI cQ α A) (hd : decode M.2.2.2.2.1 pc = .ok (.aload_n k, 1)) (h : pLd (PW p l e R s m args below meth c M D cI cQ α A Q) (pc + 1) L S σ 1 k.val) : PW p l e R s m args below meth c M D cI cQ α A Q pc L S σ := by
  intro hlen H locs ls hP hS hl rL rS rσ
  unfold pLd at h
  split at h
  · next e1 e2 => exact absurd e1 (by decide)
  · next e1 =>
    refine lv_aload_n X.1 X.2.1 hd rfl (hl.2.2 _ _ e1 (fun q => nomatch q)) ?_
    exact h hlen H locs ls hP hS hl rL (RL_cons (rL _ (nth_mem e1)) rS) rσ
  · next e1 e2 => exact absurd e1 (by decide)
  · exact h.elim
theorem zs_lload {k : Nat} (X : Cx p s m args meth c M D cI cQ α A) (hd : decode M.2.2.2.2.1 pc = .ok (.lload k, 2)) (h : pLd (PW p l e R s m args below meth c M D cI cQ α A Q) (pc + 2) L S σ 2 k) : PW p l e R s m args below meth c M D cI cQ α A Q pc L S σ := by
  intro hlen H locs ls hP hS hl rL rS rσ
  unfold pLd at h
  split at h
  · next e1 e2 => exact absurd e1 (by decide)
  · next e1 e2 => exact absurd e1 (by decide)
  · next e1 =>
    refine lv_lload X.1 X.2.1 hd (hl.2.2 _ _ e1 (fun q => nomatch q)) ?_
    exact h hlen H locs ls hP hS hl rL (RL_cons (rL _ (nth_mem e1)) rS) rσ
  · exact h.elim
theorem zs_lload_n {k : Fin 4} (X : Cx p s m args meth c M D cI cQ α A) (hd : decode M.2.2.2.2.1 pc = .ok (.lload_n k, 1)) (h : pLd (PW p l e R s m args below meth c M D cI cQ α A Q) (pc + 1) L S σ 2 k.val) : PW p l e R s m args below meth c M D cI cQ α A Q pc L S σ := by
  intro hlen H locs ls hP hS hl rL rS rσ
  unfold pLd at h
  split at h
  · next e1 e2 => exact absurd e1 (by decide)
  · next e1 e2 => exact absurd e1 (by decide)
  · next e1 =>
    refine lv_lload_n X.1 X.2.1 hd rfl (hl.2.2 _ _ e1 (fun q => nomatch q)) ?_
    exact h hlen H locs ls hP hS hl rL (RL_cons (rL _ (nth_mem e1)) rS) rσ
  · exact h.elim
theorem zs_istore {k : Nat} (X : Cx p s m args meth c M D cI cQ α A) (hd : decode M.2.2.2.2.1 pc = .ok (.istore k, 2)) (hk : k < M.2.2.2.2.2.1) (h : pSt (PW p l e R s m args below meth c M D cI cQ α A Q) (pc + 2) L S σ 0 k) : PW p l e R s m args below meth c M D cI cQ α A Q pc L S σ := by
  intro hlen H locs ls hP hS hl rL rS rσ
  unfold pSt at h
  split at h
  · exact h.elim
  · next hn =>
    split at h
    · refine lv_istore X.1 X.2.1 hd (lvR_has hl) (by rw [hlen]; exact hk) rfl (fun ls2 hl2 => ?_)
      exact h (by rw [setL_len]; exact hlen) H locs ls2 hP hS (lvR_set (v := aI _) hn hl2) (RL_set (RL_hd rS) rL) (RL_tl rS) rσ
    · next e1 => exact absurd e1 (by decide)
    · exact h.elim
theorem zs_istore_n {k : Fin 4} (X : Cx p s m args meth c M D cI cQ α A) (hd : decode M.2.2.2.2.1 pc = .ok (.istore_n k, 1)) (hk : k.val < M.2.2.2.2.2.1) (h : pSt (PW p l e R s m args below meth c M D cI cQ α A Q) (pc + 1) L S σ 0 k.val) : PW p l e R s m args below meth c M D cI cQ α A Q pc L S σ := by
  intro hlen H locs ls hP hS hl rL rS rσ
  unfold pSt at h
  split at h
  · exact h.elim
  · next hn =>
    split at h
    · refine lv_istore_n X.1 X.2.1 hd rfl (lvR_has hl) (by rw [hlen]; exact hk) rfl (fun ls2 hl2 => ?_)
      exact h (by rw [setL_len]; exact hlen) H locs ls2 hP hS (lvR_set (v := aI _) hn hl2) (RL_set (RL_hd rS) rL) (RL_tl rS) rσ
    · next e1 => exact absurd e1 (by decide)
    · exact h.elim
theorem zs_astore {k : Nat} (X : Cx p s m args meth c M D cI cQ α A) (hd : decode M.2.2.2.2.1 pc = .ok (.astore k, 2)) (hk : k < M.2.2.2.2.2.1) (h : pSt (PW p l e R s m args below meth c M D cI cQ α A Q) (pc + 2) L S σ 1 k) : PW p l e R s m args below meth c M D cI cQ α A Q pc L S σ := by
  intro hlen H locs ls hP hS hl rL rS rσ
  unfold pSt at h
  split at h
  · exact h.elim
  · next hn =>
    split at h
    · next e1 => exact absurd e1 (by decide)
    · refine lv_astore X.1 X.2.1 hd (lvR_has hl) (by rw [hlen]; exact hk) rfl (fun ls2 hl2 => ?_)
      exact h (by rw [setL_len]; exact hlen) H locs ls2 hP hS (lvR_set (v := aR _) hn hl2) (RL_set (RL_hd rS) rL) (RL_tl rS) rσ
    · exact h.elim
theorem zs_astore_n {k : Fin 4} (X : Cx p s m args meth c M D cI cQ α A) (hd : decode M.2.2.2.2.1 pc = .ok (.astore_n k, 1)) (hk : k.val < M.2.2.2.2.2.1) (h : pSt (PW p l e R s m args below meth c M D cI cQ α A Q) (pc + 1) L S σ 1 k.val) : PW p l e R s m args below meth c M D cI cQ α A Q pc L S σ := by
  intro hlen H locs ls hP hS hl rL rS rσ
  unfold pSt at h
  split at h
  · exact h.elim
  · next hn =>
    split at h
    · next e1 => exact absurd e1 (by decide)
    · refine lv_astore_n X.1 X.2.1 hd rfl (lvR_has hl) (by rw [hlen]; exact hk) rfl (fun ls2 hl2 => ?_)
      exact h (by rw [setL_len]; exact hlen) H locs ls2 hP hS (lvR_set (v := aR _) hn hl2) (RL_set (RL_hd rS) rL) (RL_tl rS) rσ
    · exact h.elim
theorem zs_iconst (X : Cx p s m args meth c M D cI cQ α A) {n v : Int} (hd : decode M.2.2.2.2.1 pc = .ok (.iconst n, 1)) (hv : Int32.ofInt n = Int32.ofInt v) (hr : R32 v) (h : PW p l e R s m args below meth c M D cI cQ α A Q (pc + 1) L (aI v :: S) σ) : PW p l e R s m args below meth c M D cI cQ α A Q pc L S σ := by
  intro hlen H locs ls hP hS hl rL rS rσ
  refine lv_iconst X.1 X.2.1 hd hv ?_
  exact h hlen H locs ls hP hS hl rL (RL_cons hr rS) rσ
theorem zs_bipush (X : Cx p s m args meth c M D cI cQ α A) {n v : Int} (hd : decode M.2.2.2.2.1 pc = .ok (.bipush n, 2)) (hv : (Int8.ofInt n).toInt32 = Int32.ofInt v) (hr : R32 v) (h : PW p l e R s m args below meth c M D cI cQ α A Q (pc + 2) L (aI v :: S) σ) : PW p l e R s m args below meth c M D cI cQ α A Q pc L S σ := by
  intro hlen H locs ls hP hS hl rL rS rσ
  refine lv_bipush X.1 X.2.1 hd hv ?_
  exact h hlen H locs ls hP hS hl rL (RL_cons hr rS) rσ
theorem zs_sipush (X : Cx p s m args meth c M D cI cQ α A) {n v : Int} (hd : decode M.2.2.2.2.1 pc = .ok (.sipush n, 3)) (hv : (Int16.ofInt n).toInt32 = Int32.ofInt v) (hr : R32 v) (h : PW p l e R s m args below meth c M D cI cQ α A Q (pc + 3) L (aI v :: S) σ) : PW p l e R s m args below meth c M D cI cQ α A Q pc L S σ := by
  intro hlen H locs ls hP hS hl rL rS rσ
  refine lv_sipush X.1 X.2.1 hd hv ?_
  exact h hlen H locs ls hP hS hl rL (RL_cons hr rS) rσ
theorem zs_ldc (X : Cx p s m args meth c M D cI cQ α A) {k : Nat} {v : Int} (hd : decode M.2.2.2.2.1 pc = .ok (.ldc k, 2)) (hk : KOK (M.2.2.1, k, v)) (h : PW p l e R s m args below meth c M D cI cQ α A Q (pc + 2) L (aI v :: S) σ) : PW p l e R s m args below meth c M D cI cQ α A Q pc L S σ := by
  intro hlen H locs ls hP hS hl rL rS rσ
  refine lv_ldc X.1 X.2.1 X.2.2.2.2.2.1 (X.2.2.2.2.2.2.1 _ hk.1) hd ?_
  exact h hlen H locs ls hP hS hl rL (RL_cons hk.2 rS) rσ
theorem zs_ldc_w (X : Cx p s m args meth c M D cI cQ α A) {k : Nat} {v : Int} (hd : decode M.2.2.2.2.1 pc = .ok (.ldc_w k, 3)) (hk : KOK (M.2.2.1, k, v)) (h : PW p l e R s m args below meth c M D cI cQ α A Q (pc + 3) L (aI v :: S) σ) : PW p l e R s m args below meth c M D cI cQ α A Q pc L S σ := by
  intro hlen H locs ls hP hS hl rL rS rσ
  refine lv_ldcw X.1 X.2.1 X.2.2.2.2.2.1 (X.2.2.2.2.2.2.1 _ hk.1) hd ?_
  exact h hlen H locs ls hP hS hl rL (RL_cons hk.2 rS) rσ
theorem zs_ldc2 (X : Cx p s m args meth c M D cI cQ α A) {k : Nat} {v : Int} (hd : decode M.2.2.2.2.1 pc = .ok (.ldc2_w k, 3)) (hk : JOK (M.2.2.1, k, v)) (h : PW p l e R s m args below meth c M D cI cQ α A Q (pc + 3) L (aJ v :: S) σ) : PW p l e R s m args below meth c M D cI cQ α A Q pc L S σ := by
  intro hlen H locs ls hP hS hl rL rS rσ
  refine lv_ldc2 X.1 X.2.1 X.2.2.2.2.2.1 (X.2.2.2.2.2.2.1 _ hk.1) hd ?_
  exact h hlen H locs ls hP hS hl rL (RL_cons hk.2 rS) rσ
theorem zs_lconst (X : Cx p s m args meth c M D cI cQ α A) {n : Fin 2} {v : Int} (hd : decode M.2.2.2.2.1 pc = .ok (.lconst n, 1)) (hv : Int64.ofNat n.val = Int64.ofInt v) (hr : R32 v) (h : PW p l e R s m args below meth c M D cI cQ α A Q (pc + 1) L (aJ v :: S) σ) : PW p l e R s m args below meth c M D cI cQ α A Q pc L S σ := by
  intro hlen H locs ls hP hS hl rL rS rσ
  refine lv_lconst X.1 X.2.1 hd hv ?_
  exact h hlen H locs ls hP hS hl rL (RL_cons hr rS) rσ
theorem zs_iadd (X : Cx p s m args meth c M D cI cQ α A) (hd : decode M.2.2.2.2.1 pc = .ok (.iadd, 1)) (h : pB (PW p l e R s m args below meth c M D cI cQ α A Q) (pc + 1) L S σ (fun x y => wr (x + y))) : PW p l e R s m args below meth c M D cI cQ α A Q pc L S σ := by
  intro hlen H locs ls hP hS hl rL rS rσ
  unfold pB at h
  split at h
  · next y x S =>
    have ry : R32 y := RL_hd rS
    have rx : R32 x := RL_hd (RL_tl rS)
    refine lv_iadd X.1 X.2.1 hd ?_
    have e1 : Int32.ofInt x + Int32.ofInt y = Int32.ofInt (wr (x + y)) := by rw [i32_wr, i32_add]
    rw [e1]
    exact h hlen H locs ls hP hS hl rL (RL_cons (show R32 _ from wr_R32 _) (RL_tl (RL_tl rS))) rσ
  · exact h.elim
theorem zs_isub (X : Cx p s m args meth c M D cI cQ α A) (hd : decode M.2.2.2.2.1 pc = .ok (.isub, 1)) (h : pB (PW p l e R s m args below meth c M D cI cQ α A Q) (pc + 1) L S σ (fun x y => wr (x - y))) : PW p l e R s m args below meth c M D cI cQ α A Q pc L S σ := by
  intro hlen H locs ls hP hS hl rL rS rσ
  unfold pB at h
  split at h
  · next y x S =>
    have ry : R32 y := RL_hd rS
    have rx : R32 x := RL_hd (RL_tl rS)
    refine lv_isub X.1 X.2.1 hd ?_
    have e1 : Int32.ofInt x - Int32.ofInt y = Int32.ofInt (wr (x - y)) := by rw [i32_wr, i32_sub]
    rw [e1]
    exact h hlen H locs ls hP hS hl rL (RL_cons (show R32 _ from wr_R32 _) (RL_tl (RL_tl rS))) rσ
  · exact h.elim
theorem zs_imul (X : Cx p s m args meth c M D cI cQ α A) (hd : decode M.2.2.2.2.1 pc = .ok (.imul, 1)) (h : pB (PW p l e R s m args below meth c M D cI cQ α A Q) (pc + 1) L S σ (fun x y => wr (x * y))) : PW p l e R s m args below meth c M D cI cQ α A Q pc L S σ := by
  intro hlen H locs ls hP hS hl rL rS rσ
  unfold pB at h
  split at h
  · next y x S =>
    have ry : R32 y := RL_hd rS
    have rx : R32 x := RL_hd (RL_tl rS)
    refine lv_imul X.1 X.2.1 hd ?_
    have e1 : Int32.ofInt x * Int32.ofInt y = Int32.ofInt (wr (x * y)) := by rw [i32_wr, i32_mul]
    rw [e1]
    exact h hlen H locs ls hP hS hl rL (RL_cons (show R32 _ from wr_R32 _) (RL_tl (RL_tl rS))) rσ
  · exact h.elim
theorem zs_iand (X : Cx p s m args meth c M D cI cQ α A) (hd : decode M.2.2.2.2.1 pc = .ok (.iand, 1)) (h : pB (PW p l e R s m args below meth c M D cI cQ α A Q) (pc + 1) L S σ bAnd) : PW p l e R s m args below meth c M D cI cQ α A Q pc L S σ := by
  intro hlen H locs ls hP hS hl rL rS rσ
  unfold pB at h
  split at h
  · next y x S =>
    have ry : R32 y := RL_hd rS
    have rx : R32 x := RL_hd (RL_tl rS)
    refine lv_iand X.1 X.2.1 hd ?_
    have e1 : Int32.ofInt x &&& Int32.ofInt y = Int32.ofInt (bAnd x y) := (i32_ofto _).symm
    rw [e1]
    exact h hlen H locs ls hP hS hl rL (RL_cons (show R32 _ from i32_R _) (RL_tl (RL_tl rS))) rσ
  · exact h.elim
theorem zs_ior (X : Cx p s m args meth c M D cI cQ α A) (hd : decode M.2.2.2.2.1 pc = .ok (.ior, 1)) (h : pB (PW p l e R s m args below meth c M D cI cQ α A Q) (pc + 1) L S σ bOr) : PW p l e R s m args below meth c M D cI cQ α A Q pc L S σ := by
  intro hlen H locs ls hP hS hl rL rS rσ
  unfold pB at h
  split at h
  · next y x S =>
    have ry : R32 y := RL_hd rS
    have rx : R32 x := RL_hd (RL_tl rS)
    refine lv_ior X.1 X.2.1 hd ?_
    have e1 : Int32.ofInt x ||| Int32.ofInt y = Int32.ofInt (bOr x y) := (i32_ofto _).symm
    rw [e1]
    exact h hlen H locs ls hP hS hl rL (RL_cons (show R32 _ from i32_R _) (RL_tl (RL_tl rS))) rσ
  · exact h.elim
theorem zs_ixor (X : Cx p s m args meth c M D cI cQ α A) (hd : decode M.2.2.2.2.1 pc = .ok (.ixor, 1)) (h : pB (PW p l e R s m args below meth c M D cI cQ α A Q) (pc + 1) L S σ bXor) : PW p l e R s m args below meth c M D cI cQ α A Q pc L S σ := by
  intro hlen H locs ls hP hS hl rL rS rσ
  unfold pB at h
  split at h
  · next y x S =>
    have ry : R32 y := RL_hd rS
    have rx : R32 x := RL_hd (RL_tl rS)
    refine lv_ixor X.1 X.2.1 hd ?_
    have e1 : Int32.ofInt x ^^^ Int32.ofInt y = Int32.ofInt (bXor x y) := (i32_ofto _).symm
    rw [e1]
    exact h hlen H locs ls hP hS hl rL (RL_cons (show R32 _ from i32_R _) (RL_tl (RL_tl rS))) rσ
  · exact h.elim
theorem zs_ishl (X : Cx p s m args meth c M D cI cQ α A) (hd : decode M.2.2.2.2.1 pc = .ok (.ishl, 1)) (h : pB (PW p l e R s m args below meth c M D cI cQ α A Q) (pc + 1) L S σ bShl) : PW p l e R s m args below meth c M D cI cQ α A Q pc L S σ := by
  intro hlen H locs ls hP hS hl rL rS rσ
  unfold pB at h
  split at h
  · next y x S =>
    have ry : R32 y := RL_hd rS
    have rx : R32 x := RL_hd (RL_tl rS)
    refine lv_ishl X.1 X.2.1 hd ?_
    have e1 : Int32.ofInt x <<< (Int32.ofInt y &&& 31) = Int32.ofInt (bShl x y) := (i32_ofto _).symm
    rw [e1]
    exact h hlen H locs ls hP hS hl rL (RL_cons (show R32 _ from i32_R _) (RL_tl (RL_tl rS))) rσ
  · exact h.elim
theorem zs_ishr (X : Cx p s m args meth c M D cI cQ α A) (hd : decode M.2.2.2.2.1 pc = .ok (.ishr, 1)) (h : pB (PW p l e R s m args below meth c M D cI cQ α A Q) (pc + 1) L S σ bShr) : PW p l e R s m args below meth c M D cI cQ α A Q pc L S σ := by
  intro hlen H locs ls hP hS hl rL rS rσ
  unfold pB at h
  split at h
  · next y x S =>
    have ry : R32 y := RL_hd rS
    have rx : R32 x := RL_hd (RL_tl rS)
    refine lv_ishr X.1 X.2.1 hd ?_
    have e1 : Int32.ofInt x >>> (Int32.ofInt y &&& 31) = Int32.ofInt (bShr x y) := (i32_ofto _).symm
    rw [e1]
    exact h hlen H locs ls hP hS hl rL (RL_cons (show R32 _ from i32_R _) (RL_tl (RL_tl rS))) rσ
  · exact h.elim
theorem zs_iushr (X : Cx p s m args meth c M D cI cQ α A) (hd : decode M.2.2.2.2.1 pc = .ok (.iushr, 1)) (h : pB (PW p l e R s m args below meth c M D cI cQ α A Q) (pc + 1) L S σ bUsh) : PW p l e R s m args below meth c M D cI cQ α A Q pc L S σ := by
  intro hlen H locs ls hP hS hl rL rS rσ
  unfold pB at h
  split at h
  · next y x S =>
    have ry : R32 y := RL_hd rS
    have rx : R32 x := RL_hd (RL_tl rS)
    refine lv_iushr X.1 X.2.1 hd rfl ?_
    have e1 : ((Int32.ofInt x).toUInt32 >>> ((Int32.ofInt y).toUInt32 &&& Int32.toUInt32 31)).toInt32 = Int32.ofInt (bUsh x y) := (i32_ofto _).symm
    rw [e1]
    exact h hlen H locs ls hP hS hl rL (RL_cons (show R32 _ from i32_R _) (RL_tl (RL_tl rS))) rσ
  · exact h.elim
theorem zs_idiv (X : Cx p s m args meth c M D cI cQ α A) (hd : decode M.2.2.2.2.1 pc = .ok (.idiv, 1)) (h : pD (PW p l e R s m args below meth c M D cI cQ α A Q) (pc + 1) L S σ (fun x y => wr (x.tdiv y))) : PW p l e R s m args below meth c M D cI cQ α A Q pc L S σ := by
  intro hlen H locs ls hP hS hl rL rS rσ
  unfold pD at h
  split at h
  · next y x S =>
    have ry : R32 y := RL_hd rS
    have rx : R32 x := RL_hd (RL_tl rS)
    obtain ⟨h0, h⟩ := h
    refine lv_idiv X.1 X.2.1 hd (fun q => h0 ((i32_eq ry R32_0).mp q)) ?_
    have e1 : Int32.ofInt x / Int32.ofInt y = Int32.ofInt (wr (x.tdiv y)) := by rw [i32_wr, i32_div rx ry]
    rw [e1]
    exact h hlen H locs ls hP hS hl rL (RL_cons (show R32 _ from wr_R32 _) (RL_tl (RL_tl rS))) rσ
  · exact h.elim
theorem zs_irem (X : Cx p s m args meth c M D cI cQ α A) (hd : decode M.2.2.2.2.1 pc = .ok (.irem, 1)) (h : pD (PW p l e R s m args below meth c M D cI cQ α A Q) (pc + 1) L S σ (fun x y => x.tmod y)) : PW p l e R s m args below meth c M D cI cQ α A Q pc L S σ := by
  intro hlen H locs ls hP hS hl rL rS rσ
  unfold pD at h
  split at h
  · next y x S =>
    have ry : R32 y := RL_hd rS
    have rx : R32 x := RL_hd (RL_tl rS)
    obtain ⟨h0, h⟩ := h
    refine lv_irem X.1 X.2.1 hd (fun q => h0 ((i32_eq ry R32_0).mp q)) ?_
    have e1 : Int32.ofInt x - Int32.ofInt x / Int32.ofInt y * Int32.ofInt y = Int32.ofInt (x.tmod y) := i32_rem rx ry h0
    rw [e1]
    exact h hlen H locs ls hP hS hl rL (RL_cons (show R32 _ from R32_tmod ry h0) (RL_tl (RL_tl rS))) rσ
  · exact h.elim
theorem zs_ineg (X : Cx p s m args meth c M D cI cQ α A) (hd : decode M.2.2.2.2.1 pc = .ok (.ineg, 1)) (h : pU (PW p l e R s m args below meth c M D cI cQ α A Q) (pc + 1) L S σ (fun x => wr (-x))) : PW p l e R s m args below meth c M D cI cQ α A Q pc L S σ := by
  intro hlen H locs ls hP hS hl rL rS rσ
  unfold pU at h
  split at h
  · next x S =>
    refine lv_ineg X.1 X.2.1 hd ?_
    have e1 : - Int32.ofInt x = Int32.ofInt (wr (-x)) := by rw [i32_wr, i32_neg]
    rw [e1]
    exact h hlen H locs ls hP hS hl rL (RL_cons (show R32 _ from wr_R32 _) (RL_tl rS)) rσ
  · exact h.elim
theorem zs_i2b (X : Cx p s m args meth c M D cI cQ α A) (hd : decode M.2.2.2.2.1 pc = .ok (.i2b, 1)) (h : pU (PW p l e R s m args below meth c M D cI cQ α A Q) (pc + 1) L S σ cB) : PW p l e R s m args below meth c M D cI cQ α A Q pc L S σ := by
  intro hlen H locs ls hP hS hl rL rS rσ
  unfold pU at h
  split at h
  · next x S =>
    refine lv_i2b X.1 X.2.1 hd rfl ?_
    have e1 : (Int32.ofInt x).toInt8.toInt32 = Int32.ofInt (cB x) := (i32_ofto _).symm
    rw [e1]
    exact h hlen H locs ls hP hS hl rL (RL_cons (show R32 _ from i32_R _) (RL_tl rS)) rσ
  · exact h.elim
theorem zs_i2s (X : Cx p s m args meth c M D cI cQ α A) (hd : decode M.2.2.2.2.1 pc = .ok (.i2s, 1)) (h : pU (PW p l e R s m args below meth c M D cI cQ α A Q) (pc + 1) L S σ cS) : PW p l e R s m args below meth c M D cI cQ α A Q pc L S σ := by
  intro hlen H locs ls hP hS hl rL rS rσ
  unfold pU at h
  split at h
  · next x S =>
    refine lv_i2s X.1 X.2.1 hd rfl ?_
    have e1 : (Int32.ofInt x).toInt16.toInt32 = Int32.ofInt (cS x) := (i32_ofto _).symm
    rw [e1]
    exact h hlen H locs ls hP hS hl rL (RL_cons (show R32 _ from i32_R _) (RL_tl rS)) rσ
  · exact h.elim
theorem zs_i2l (X : Cx p s m args meth c M D cI cQ α A) {x : Int} (hd : decode M.2.2.2.2.1 pc = .ok (.i2l, 1)) (h : PW p l e R s m args below meth c M D cI cQ α A Q (pc + 1) L (aJ x :: S) σ) : PW p l e R s m args below meth c M D cI cQ α A Q pc L (aI x :: S) σ := by
  intro hlen H locs ls hP hS hl rL rS rσ
  refine lv_i2l X.1 X.2.1 hd (i64_i2l (RL_hd rS)) ?_
  exact h hlen H locs ls hP hS hl rL (RL_cons (show R32 x from RL_hd rS) (RL_tl rS)) rσ
theorem zs_lcmp (X : Cx p s m args meth c M D cI cQ α A) {x y : Int} (hd : decode M.2.2.2.2.1 pc = .ok (.lcmp, 1)) (h : PW p l e R s m args below meth c M D cI cQ α A Q (pc + 1) L (aI (if x < y then -1 else if x = y then 0 else 1) :: S) σ) : PW p l e R s m args below meth c M D cI cQ α A Q pc L (aJ y :: aJ x :: S) σ := by
  intro hlen H locs ls hP hS hl rL rS rσ
  refine W.lcmp X.1 X.2.1 hd ?_
  have ry : R32 y := RL_hd rS
  have rx : R32 x := RL_hd (RL_tl rS)
  rw [lg_cmpI rx ry]
  refine h hlen H locs ls hP hS hl rL (RL_cons ?_ (RL_tl (RL_tl rS))) rσ
  show R32 _
  split
  · decide
  · split <;> decide
theorem zs_dup_aI (X : Cx p s m args meth c M D cI cQ α A) {x : Int} (hd : decode M.2.2.2.2.1 pc = .ok (.dup, 1)) (h : PW p l e R s m args below meth c M D cI cQ α A Q (pc + 1) L (aI x :: aI x :: S) σ) : PW p l e R s m args below meth c M D cI cQ α A Q pc L (aI x :: S) σ := by
  intro hlen H locs ls hP hS hl rL rS rσ
  refine lv_dup X.1 X.2.1 hd rfl ?_
  exact h hlen H locs ls hP hS hl rL (RL_cons (RL_hd rS) rS) rσ
theorem zs_dup_aR (X : Cx p s m args meth c M D cI cQ α A) {x : Nat} (hd : decode M.2.2.2.2.1 pc = .ok (.dup, 1)) (h : PW p l e R s m args below meth c M D cI cQ α A Q (pc + 1) L (aR x :: aR x :: S) σ) : PW p l e R s m args below meth c M D cI cQ α A Q pc L (aR x :: S) σ := by
  intro hlen H locs ls hP hS hl rL rS rσ
  refine lv_dup X.1 X.2.1 hd rfl ?_
  exact h hlen H locs ls hP hS hl rL (RL_cons (RL_hd rS) rS) rσ
theorem zs_dup2 (X : Cx p s m args meth c M D cI cQ α A) {x : Int} {a : Nat} (hd : decode M.2.2.2.2.1 pc = .ok (.dup2, 1)) (h : PW p l e R s m args below meth c M D cI cQ α A Q (pc + 1) L (aI x :: aR a :: aI x :: aR a :: S) σ) : PW p l e R s m args below meth c M D cI cQ α A Q pc L (aI x :: aR a :: S) σ := by
  intro hlen H locs ls hP hS hl rL rS rσ
  refine lv_dup2_11 X.1 X.2.1 hd rfl rfl ?_
  exact h hlen H locs ls hP hS hl rL (RL_cons (RL_hd rS) (RL_cons (RL_hd (RL_tl rS)) rS)) rσ
theorem lst_get {α : Nat → Nat} {L : List Av} {k : Nat} {v : Av} (h : nth L k = some v) (hv : v ≠ aU) : ∃ j : Nat, (lst α 0 L)[j]? = some (k, tr α v) := by
  have h1 := lst_of (α := α) L 0 k v h hv
  rw [Nat.zero_add] at h1
  exact List.getElem?_of_mem h1
theorem zs_iinc (X : Cx p s m args meth c M D cI cQ α A) {k : Nat} {n x : Int} (hd : decode M.2.2.2.2.1 pc = .ok (.iinc k n, 3)) (hk : k < M.2.2.2.2.2.1) (hn : noJ L = true) (hx : nth L k = some (aI x)) (h : PW p l e R s m args below meth c M D cI cQ α A Q (pc + 3) (setL L k (aI (wr (x + n)))) S σ) : PW p l e R s m args below meth c M D cI cQ α A Q pc L S σ := by
  intro hlen H locs ls hP hS hl rL rS rσ
  obtain ⟨j, hj⟩ := lst_get (α := α) hx (fun q => nomatch q)
  refine lv_iinc X.1 X.2.1 hd (lvR_has hl) hj (v := Int32.ofInt (wr (x + n))) (by rw [i32_wr, i32_add]) (by rw [hlen]; exact hk) rfl (fun ls2 hl2 => ?_)
  exact h (by rw [setL_len]; exact hlen) H locs ls2 hP hS (lvR_set (v := aI _) hn hl2) (RL_set (show R32 _ from wr_R32 _) rL) rS rσ
theorem zs_goto (X : Cx p s m args meth c M D cI cQ α A) {off : Int} {t : Nat} (hd : decode M.2.2.2.2.1 pc = .ok (.goto off, 3)) (ht : (pc : Int) + off = (t : Int)) (h : PW p l e R s m args below meth c M D cI cQ α A Q t L S σ) : PW p l e R s m args below meth c M D cI cQ α A Q pc L S σ := by
  intro hlen H locs ls hP hS hl rL rS rσ
  refine lv_goto X.1 X.2.1 hd ht ?_
  exact h hlen H locs ls hP hS hl rL rS rσ
theorem zs_ifc (X : Cx p s m args meth c M D cI cQ α A) {cc : ClassFile.Cond} {off x : Int} {t : Nat} (hd : decode M.2.2.2.2.1 pc = .ok (.ifCond cc off, 3)) (ht : (pc : Int) + off = (t : Int)) (h : pC cc x 0 (PW p l e R s m args below meth c M D cI cQ α A Q t L S σ) (PW p l e R s m args below meth c M D cI cQ α A Q (pc + 3) L S σ)) : PW p l e R s m args below meth c M D cI cQ α A Q pc L (aI x :: S) σ := by
  intro hlen H locs ls hP hS hl rL rS rσ
  have rx : R32 x := RL_hd rS
  have ry : R32 0 := R32_0
  have go1 := fun z : PW p l e R s m args below meth c M D cI cQ α A Q t L S σ => z hlen H locs ls hP hS hl rL (RL_tl rS) rσ
  have go2 := fun z : PW p l e R s m args below meth c M D cI cQ α A Q (pc + 3) L S σ => z hlen H locs ls hP hS hl rL (RL_tl rS) rσ
  cases cc
  · exact lv_if_eq X.1 X.2.1 hd ht (fun q => go1 (h.1 ((i32_eq rx ry).mp q))) (fun q => go2 (h.2 (fun z => q ((i32_eq rx ry).mpr z))))
  · exact lv_if_ne X.1 X.2.1 hd ht (fun q => go1 (h.2 (fun z => q ((i32_eq rx ry).mpr z)))) (fun q => go2 (h.1 ((i32_eq rx ry).mp q)))
  · exact lv_if_lt X.1 X.2.1 hd ht (fun q => go1 (h.1 ((i32_lt rx ry).mp q))) (fun q => go2 (h.2 (fun z => q ((i32_lt rx ry).mpr z))))
  · exact lv_if_ge X.1 X.2.1 hd ht (fun q => go1 (h.2 (fun z => absurd ((i32_le ry rx).mp q) (by omega)))) (fun q => go2 (h.1 (Int.lt_of_not_ge (fun z => q ((i32_le ry rx).mpr z)))))
  · exact lv_if_gt X.1 X.2.1 hd ht (fun q => go1 (h.1 ((i32_lt ry rx).mp q))) (fun q => go2 (h.2 (fun z => q ((i32_lt ry rx).mpr z))))
  · exact lv_if_le X.1 X.2.1 hd ht (fun q => go1 (h.2 (fun z => absurd ((i32_le rx ry).mp q) (by omega)))) (fun q => go2 (h.1 (Int.lt_of_not_ge (fun z => q ((i32_le rx ry).mpr z)))))
theorem zs_icmp (X : Cx p s m args meth c M D cI cQ α A) {cc : ClassFile.Cond} {off x y : Int} {t : Nat} (hd : decode M.2.2.2.2.1 pc = .ok (.if_icmp cc off, 3)) (ht : (pc : Int) + off = (t : Int)) (h : pC cc x y (PW p l e R s m args below meth c M D cI cQ α A Q t L S σ) (PW p l e R s m args below meth c M D cI cQ α A Q (pc + 3) L S σ)) : PW p l e R s m args below meth c M D cI cQ α A Q pc L (aI y :: aI x :: S) σ := by
  intro hlen H locs ls hP hS hl rL rS rσ
  have rx : R32 x := RL_hd (RL_tl rS)
  have ry : R32 y := RL_hd rS
  have go1 := fun z : PW p l e R s m args below meth c M D cI cQ α A Q t L S σ => z hlen H locs ls hP hS hl rL (RL_tl (RL_tl rS)) rσ
  have go2 := fun z : PW p l e R s m args below meth c M D cI cQ α A Q (pc + 3) L S σ => z hlen H locs ls hP hS hl rL (RL_tl (RL_tl rS)) rσ
  cases cc
  · exact lv_icmp_eq X.1 X.2.1 hd ht (fun q => go1 (h.1 ((i32_eq rx ry).mp q))) (fun q => go2 (h.2 (fun z => q ((i32_eq rx ry).mpr z))))
  · exact lv_icmp_ne X.1 X.2.1 hd ht (fun q => go1 (h.2 (fun z => q ((i32_eq rx ry).mpr z)))) (fun q => go2 (h.1 ((i32_eq rx ry).mp q)))
  · exact lv_icmp_lt X.1 X.2.1 hd ht (fun q => go1 (h.1 ((i32_lt rx ry).mp q))) (fun q => go2 (h.2 (fun z => q ((i32_lt rx ry).mpr z))))
  · exact lv_icmp_ge X.1 X.2.1 hd ht (fun q => go1 (h.2 (fun z => absurd ((i32_le ry rx).mp q) (by omega)))) (fun q => go2 (h.1 (Int.lt_of_not_ge (fun z => q ((i32_le ry rx).mpr z)))))
  · exact lv_icmp_gt X.1 X.2.1 hd ht (fun q => go1 (h.1 ((i32_lt ry rx).mp q))) (fun q => go2 (h.2 (fun z => q ((i32_lt ry rx).mpr z))))
  · exact lv_icmp_le X.1 X.2.1 hd ht (fun q => go1 (h.2 (fun z => absurd ((i32_le rx ry).mp q) (by omega)))) (fun q => go2 (h.1 (Int.lt_of_not_ge (fun z => q ((i32_le rx ry).mpr z)))))
theorem pSw_out {P : Pt3} {x hi0 lo0 : Int} {d : Nat} (hx : x < lo0 ∨ hi0 < x) : ∀ (ts : List Nat) (lo : Int), pSw P L S σ x d hi0 lo0 ts lo → P d L S σ
  | [], _, h => h hx
  | _ :: ts, lo, h => pSw_out hx ts (lo + 1) h.2
theorem pSw_in {P : Pt3} {x hi0 lo0 : Int} {d : Nat} : ∀ (ts : List Nat) (lo : Int) (j t : Nat), ts[j]? = some t → x = lo + j → pSw P L S σ x d hi0 lo0 ts lo → P t L S σ
  | [], _, _, _, ht, _, _ => by simp at ht
  | a :: ts, lo, 0, t, ht, hx, h => by
    simp only [List.getElem?_cons_zero, Option.some.injEq] at ht
    subst ht
    exact h.1 (by simpa using hx)
  | a :: ts, lo, j + 1, t, ht, hx, h => pSw_in ts (lo + 1) j t (by simpa using ht) (by rw [hx]; push_cast; omega) h.2
theorem zs_sw (X : Cx p s m args meth c M D cI cQ α A) {d lo hi x : Int} {offs : Array Int} {len t : Nat} {ts : List Nat} (hd : decode M.2.2.2.2.1 pc = .ok (.tableswitch d lo hi offs, len)) (ht : (pc : Int) + d = (t : Int)) (hts : offs.toList.map (fun o => (pc : Int) + o) = ts.map (fun (t : Nat) => (t : Int))) (hlen2 : (ts.length : Int) = hi - lo + 1) (h : pSw (PW p l e R s m args below meth c M D cI cQ α A Q) L S σ x t hi lo ts lo) : PW p l e R s m args below meth c M D cI cQ α A Q pc L (aI x :: S) σ := by
  intro hlen H locs ls hP hS hl rL rS rσ
  have rx : R32 x := RL_hd rS
  have ex : (Int32.ofInt x).toInt = x := i32_of rx
  by_cases hx : x < lo ∨ hi < x
  · refine lv_tableOut X.1 X.2.1 hd (by rw [ex]; exact hx) ht ?_
    exact pSw_out hx ts lo h hlen H locs ls hP hS hl rL (RL_tl rS) rσ
  · have hj : (x - lo).toNat < ts.length := by omega
    obtain ⟨q, hq⟩ : ∃ q, ts[(x - lo).toNat]? = some q := ⟨_, List.getElem?_eq_getElem hj⟩
    have h1 : (offs.toList.map (fun o => (pc : Int) + o))[(x - lo).toNat]? = some (q : Int) := by rw [hts, List.getElem?_map, hq]; rfl
    rw [List.getElem?_map] at h1
    obtain ⟨o1, ho1, ho2⟩ := Option.map_eq_some_iff.mp h1
    refine lv_tableIn X.1 X.2.1 hd (by rw [ex]; omega) (by rw [ex]; omega) (off := o1) (tgt := q) (by rw [ex]; simpa using ho1) ho2 ?_
    exact pSw_in ts lo (x - lo).toNat q hq (by omega) h hlen H locs ls hP hS hl rL (RL_tl rS) rσ
theorem fld_at {C : String} {T : u_T} {N ci k a : Nat} (hv : VWF ci C T N) (hk : k < N) (hc : CLS a = ci) : (WS cI cQ α σ)[a]? = some (α a, .inr (ci, (List.range (NFl.getD ci 0)).map (cellV α σ ci a))) ∧ ((List.range (NFl.getD ci 0)).map (cellV α σ ci a))[k]? = some (cellV α σ ci a k) := by
  have h8 := hv.2.1
  refine ⟨?_, ?_⟩
  · rw [WS_get (CLS_lt (by omega)), wcell_obj hc h8]
  · rw [List.getElem?_map, List.getElem?_range (by rw [← hv.1]; exact hk)]
    rfl
theorem zs_get {k ci f a : Nat} {v : Av} (X : Cx p s m args meth c M D cI cQ α A) (hd : decode M.2.2.2.2.1 pc = .ok (.getfield k, 3)) (hq : FOK (M.2.2.1, k, ci, f)) (hc : CLS a = ci) (hv : ∀ H, va_P D vwCl (WS cI cQ α σ) H → RS σ → tr α v = cellV α σ ci a f ∧ Rv v) (h : PW p l e R s m args below meth c M D cI cQ α A Q (pc + 3) L (v :: S) σ) : PW p l e R s m args below meth c M D cI cQ α A Q pc L (aR a :: S) σ := by
  intro hlen H locs ls hP hS hl rL rS rσ
  obtain ⟨C, T, N, hw, hk, hC, hlink⟩ := hq
  have hF := vwf_of hw
  obtain ⟨w1, w2⟩ := fld_at (cI := cI) (cQ := cQ) (α := α) (σ := σ) hF hk hc
  obtain ⟨e1, e2⟩ := hv H hP rσ
  have go := h hlen H locs ls hP hS hl rL (RL_cons e2 (RL_tl rS)) rσ
  rcases hlink with hlink | hlink
  · refine va_get (D := D) (ci := ci) (v := tr α v) X.1 X.2.1 X.2.2.2.2.2.2.1 hF.2.2.2.1 X.2.2.2.2.2.1 X.2.2.2.2.2.2.2.1 hP a w1 hw f hk (X.2.2.2.2.2.2.1 _ hlink) (fun x h9 => by rw [← hC]; exact h9) (by rw [e1]; exact w2) hd ?_
    exact go
  · refine va_getN (D := D) (ci := ci) (v := tr α v) X.1 X.2.1 X.2.2.2.2.2.2.1 hF.2.2.2.1 X.2.2.2.2.2.1 X.2.2.2.2.2.2.2.1 hP a w1 hw f hk (va_Nw.use rfl (X.2.2.2.2.2.2.2.2.1 _ hlink)) (fun x h9 => by rw [← hC]; exact h9) (by rw [e1]; exact w2) hd ?_
    exact go
theorem fs_set {ci k a N : Nat} {σ' : Sg} (hN : N = NFl.getD ci 0) (hk : k < N) (ho : ∀ j, j ≠ k → σ' a j = σ a j) : ((List.range (NFl.getD ci 0)).map (cellV α σ ci a)).set k (cellV α σ' ci a k) = (List.range (NFl.getD ci 0)).map (cellV α σ' ci a) := by
  apply List.ext_getElem?
  intro j
  by_cases hj : j < NFl.getD ci 0
  · by_cases e : j = k
    · subst e
      rw [List.getElem?_set_self (by rw [List.length_map, List.length_range]; exact hj), List.getElem?_map, List.getElem?_range hj]
      rfl
    · rw [List.getElem?_set_ne (Ne.symm e), List.getElem?_map, List.getElem?_map, List.getElem?_range hj]
      show some _ = some _
      rw [cellV_eq (ho j e)]
  · rw [List.getElem?_eq_none (by rw [List.length_set, List.length_map, List.length_range]; omega), List.getElem?_eq_none (by rw [List.length_map, List.length_range]; omega)]
theorem zs_put {k ci f a : Nat} {v : Av} {x : Int} {ty : FieldType} {dsc : String} (X : Cx p s m args meth c M D cI cQ α A) (hd : decode M.2.2.2.2.1 pc = .ok (.putfield k, 3)) (hq : FOK (M.2.2.1, k, ci, f)) (hc : CLS a = ci) (hdesc : ∀ C T N, VWF ci C T N → f < N → (T f).2.2.1 = dsc ∧ (T f).2.2.2 = false) (hty : parseFieldDescriptor dsc = some ty) (hn : narrow ty (tr α v) = tr α v) (hfit : fits ty (tr α v) = true) (hv : tr α v = cellV α (up σ a f x) ci a f) (hx : Rv v → R32 x) (h : PW p l e R s m args below meth c M D cI cQ α A Q (pc + 3) L S (up σ a f x)) : PW p l e R s m args below meth c M D cI cQ α A Q pc L (v :: aR a :: S) σ := by
  intro hlen H locs ls hP hS hl rL rS rσ
  obtain ⟨C, T, N, hw, hk, hC, hlink⟩ := hq
  have hF := vwf_of hw
  obtain ⟨w1, w2⟩ := fld_at (cI := cI) (cQ := cQ) (α := α) (σ := σ) hF hk hc
  obtain ⟨hd1, hd2⟩ := hdesc C T N hF hk
  obtain ⟨ty0, hty0⟩ := hF.2.2.2.2.1
  have hD : va_D A (WS cI cQ α σ) := va_D_ws X.2.2.2.2.2.2.2.2.2.2.1
  have eqW : (WS cI cQ α σ).set a (α a, .inr (ci, ((List.range (NFl.getD ci 0)).map (cellV α σ ci a)).set f (tr α v))) = WS cI cQ α (up σ a f x) := by
    apply WS_set
    · rw [hv, fs_set hF.1 hk (fun j hj => up_nk hj), wcell_obj hc hF.2.1]
    · intro b hb
      exact wcell_eq (fun j => up_ne hb)
  have hlf : f < ((List.range (NFl.getD ci 0)).map (cellV α σ ci a)).length := by rw [List.length_map, List.length_range, ← hF.1]; exact hk
  have go : ∀ (H1 : Heap) (locs1 : List Loc), va_P D vwCl ((WS cI cQ α σ).set a (α a, .inr (ci, ((List.range (NFl.getD ci 0)).map (cellV α σ ci a)).set f (tr α v)))) H1 → va_D A ((WS cI cQ α σ).set a (α a, .inr (ci, ((List.range (NFl.getD ci 0)).map (cellV α σ ci a)).set f (tr α v)))) → va_S A s.heap H1 locs1 → W p l e R s m args below meth c H1 locs1 0 0 Q (F0 m (pc + 3) ls (S.map (tr α))) := by
    intro H1 locs1 a1 a2 a3
    rw [eqW] at a1
    exact h hlen H1 locs1 ls a1 a3 hl rL (RL_tl (RL_tl rS)) (RS_up rσ (hx (RL_hd rS)))
  rcases hlink with hlink | hlink
  · exact va_put (D := D) (ci := ci) (v := tr α v) (ty := ty) X.1 X.2.1 X.2.2.2.2.2.2.1 hF.2.2.2.1 ty0 hty0 hF.2.2.2.2.2.1 X.2.2.2.2.2.1 X.2.2.2.2.2.2.2.1 hP hD hS a w1 hw f hk (X.2.2.2.2.2.2.1 _ hlink) (fun x h9 => by rw [← hC]; exact h9) hd2 (by rw [hd1]; exact hty) hn hfit hlf hd go
  · exact va_putN (D := D) (ci := ci) (v := tr α v) (ty := ty) X.1 X.2.1 X.2.2.2.2.2.2.1 hF.2.2.2.1 ty0 hty0 hF.2.2.2.2.2.1 X.2.2.2.2.2.1 X.2.2.2.2.2.2.2.1 hP hD hS a w1 hw f hk (va_Nw.use rfl (X.2.2.2.2.2.2.2.2.1 _ hlink)) (fun x h9 => by rw [← hC]; exact h9) hd2 (by rw [hd1]; exact hty) hn hfit hlf hd go
theorem zs_iald (X : Cx p s m args meth c M D cI cQ α A) {x : Int} {a : Nat} (hd : decode M.2.2.2.2.1 pc = .ok (.iaload, 1)) (h1 : 0 ≤ x) (h2 : x < LEN a) (h : PW p l e R s m args below meth c M D cI cQ α A Q (pc + 1) L (aI (σ a x.toNat) :: S) σ) : PW p l e R s m args below meth c M D cI cQ α A Q pc L (aI x :: aR a :: S) σ := by
  intro hlen H locs ls hP hS hl rL rS rσ
  have rx : R32 x := RL_hd rS
  obtain ⟨ha, hca⟩ := LEN_lt (a := a) (by omega)
  refine va_iald (D := D) X.1 X.2.1 X.2.2.2.2.2.2.2.1 hP a 0 (by rw [WS_get ha, wcell_arr hca]) rfl (i32_in rx h1 h2) hd ?_
  rw [i32_clamp rx]
  exact h hlen H locs ls hP hS hl rL (RL_cons (show R32 _ from rσ _ _) (RL_tl (RL_tl rS))) rσ
theorem zs_iast (X : Cx p s m args meth c M D cI cQ α A) {x v : Int} {a : Nat} (hd : decode M.2.2.2.2.1 pc = .ok (.iastore, 1)) (h1 : 0 ≤ x) (h2 : x < LEN a) (h : PW p l e R s m args below meth c M D cI cQ α A Q (pc + 1) L S (up σ a x.toNat v)) : PW p l e R s m args below meth c M D cI cQ α A Q pc L (aI v :: aI x :: aR a :: S) σ := by
  intro hlen H locs ls hP hS hl rL rS rσ
  have rx : R32 x := RL_hd (RL_tl rS)
  obtain ⟨ha, hca⟩ := LEN_lt (a := a) (by omega)
  have hD : va_D A (WS cI cQ α σ) := va_D_ws X.2.2.2.2.2.2.2.2.2.2.1
  refine va_iast (D := D) X.1 X.2.1 X.2.2.2.2.2.2.2.1 hP hD hS a 0 (by rw [WS_get ha, wcell_arr hca]) rfl (i32_in rx h1 h2) hd (fun H1 locs1 a1 a2 a3 => ?_)
  rw [WS_set (σ' := up σ a x.toNat v)] at a1
  · exact h hlen H1 locs1 ls a1 a3 hl rL (RL_tl (RL_tl (RL_tl rS))) (RS_up rσ (RL_hd rS))
  · rw [wcell_arr hca, i32_clamp rx]
    congr 4
    funext j
    unfold upd up
    by_cases e : j = x.toNat
    · rw [if_pos e, if_pos ⟨rfl, e⟩]
    · rw [if_neg e, if_neg (fun q => e q.2)]
  · exact fun b hb => wcell_eq (fun j => up_ne hb)
theorem zs_aald (X : Cx p s m args meth c M D cI cQ α A) {x : Int} (hd : decode M.2.2.2.2.1 pc = .ok (.aaload, 1)) (h1 : 0 ≤ x) (h2 : x < 8) (h : PW p l e R s m args below meth c M D cI cQ α A Q (pc + 1) L (aR (61 + 3 * x.toNat) :: S) σ) : PW p l e R s m args below meth c M D cI cQ α A Q pc L (aI x :: aR 60 :: S) σ := by
  intro hlen H locs ls hP hS hl rL rS rσ
  have rx : R32 x := RL_hd rS
  refine va_aldq (D := D) X.1 X.2.1 X.2.2.2.2.2.2.2.1 hP 60 1 (WS_get (by decide)) rfl (i32_in rx h1 h2) hd ?_
  rw [i32_clamp rx]
  exact h hlen H locs ls hP hS hl rL (RL_cons True.intro (RL_tl (RL_tl rS))) rσ
theorem zs_alen (X : Cx p s m args meth c M D cI cQ α A) {a : Nat} (hd : decode M.2.2.2.2.1 pc = .ok (.arraylength, 1)) (h1 : 0 < LEN a) (h : PW p l e R s m args below meth c M D cI cQ α A Q (pc + 1) L (aI (LEN a) :: S) σ) : PW p l e R s m args below meth c M D cI cQ α A Q pc L (aR a :: S) σ := by
  intro hlen H locs ls hP hS hl rL rS rσ
  obtain ⟨ha, hca⟩ := LEN_lt h1
  refine va_alen (D := D) X.1 X.2.1 X.2.2.2.2.2.2.2.1 hP a 0 (by rw [WS_get ha, wcell_arr hca]) rfl rfl hd ?_
  refine h hlen H locs ls hP hS hl rL (RL_cons ?_ (RL_tl rS)) rσ
  show R32 (LEN a)
  have key : ∀ a, a < 108 → R32 (LEN a) := by decide +kernel
  exact key a ha
theorem zs_copy (X : Cx p s m args meth c M D cI cQ α A) {k : Nat} {n dp sp : Int} {a a0 : Nat} (hd : decode M.2.2.2.2.1 pc = .ok (.invokestatic k, 3)) (hR1 : 1 ≤ R.frames) (hR2 : 40 ≤ R.locals) (hk : AOK (M.2.2.1, k)) (hcs : catS S ≤ 8) (h1 : 0 ≤ sp) (h2 : 0 ≤ dp) (h3 : 0 ≤ n) (h4 : sp + n ≤ LEN a0) (h5 : dp + n ≤ LEN a) (h6 : 0 < LEN a0) (h7 : 0 < LEN a) (h : PW p l e R s m args below meth c M D cI cQ α A Q (pc + 3) L S (cpy σ a0 sp a dp n)) : PW p l e R s m args below meth c M D cI cQ α A Q pc L (aI n :: aI dp :: aR a :: aI sp :: aR a0 :: S) σ := by
  intro hlen H locs ls hP hS hl rL rS rσ
  have rn : R32 n := RL_hd rS
  have rdp : R32 dp := RL_hd (RL_tl rS)
  have rsp : R32 sp := RL_hd (RL_tl (RL_tl (RL_tl rS)))
  obtain ⟨ha, hca⟩ := LEN_lt h7
  obtain ⟨ha0, hca0⟩ := LEN_lt h6
  have hD : va_D A (WS cI cQ α σ) := va_D_ws X.2.2.2.2.2.2.2.2.2.2.1
  have ng : ∀ z : Int, R32 z → 0 ≤ z → ¬ Int32.ofInt z < 0 := fun z r q w => absurd ((i32_lt r R32_0).mp w) (by omega)
  refine va_copyi (D := D) X.1 X.2.1 (by rw [X.2.2.1, ← hlen]; exact hl.1.symm) X.2.2.2.2.2.1 (X.2.2.2.2.2.2.1 _ hk) (X.2.2.2.2.2.2.1 _ ac_native) (X.2.2.2.2.2.2.1 _ ac_static) (X.2.2.2.2.2.2.1 _ ac_init) X.2.2.2.2.2.2.2.1 hP hD hS a0 a 0 0 (by rw [WS_get ha0, wcell_arr hca0]) (by rw [WS_get ha, wcell_arr hca]) (ty := .int) rfl rfl rfl (ng _ rsp h1) (ng _ rdp h2) (ng _ rn h3) (by rw [i32_clamp rsp, i32_clamp rn]; unfold LEN at h4; simp only [Int.ofNat_eq_natCast] at h4; omega) (by rw [i32_clamp rdp, i32_clamp rn]; unfold LEN at h5; simp only [Int.ofNat_eq_natCast] at h5; omega) (fun i _ => rfl) hR1 ?_ hd (fun H1 locs1 a1 a2 a3 => ?_)
  · rw [catS_sum]
    have : nativeFrameWords "java/lang/System" "arraycopy" 5 + 11 ≤ 32 := by decide
    omega
  · rw [WS_set (σ' := cpy σ a0 sp a dp n)] at a1
    · exact h hlen H1 locs1 ls a1 a3 hl rL (RL_tl (RL_tl (RL_tl (RL_tl (RL_tl rS))))) (RS_cpy rσ)
    · rw [wcell_arr hca, i32_clamp rsp, i32_clamp rdp, i32_clamp rn]
      congr 4
      funext j
      unfold va_cpy cpy
      by_cases e : dp.toNat ≤ j ∧ j < dp.toNat + n.toNat
      · rw [if_pos e, if_pos ⟨rfl, e⟩]
      · rw [if_neg e, if_neg (fun q => e q.2)]
    · exact fun b hb => wcell_eq (fun j => by unfold cpy; rw [if_neg (fun q => hb q.1)])
theorem zs_max (X : Cx p s m args meth c M D cI cQ α A) {k : Nat} {x y : Int} (hd : decode M.2.2.2.2.1 pc = .ok (.invokestatic k, 3)) (hR1 : 1 ≤ R.frames) (hR2 : 40 ≤ R.locals) (hk : XOK (M.2.2.1, k)) (hcs : catS S ≤ 8) (h : PW p l e R s m args below meth c M D cI cQ α A Q (pc + 3) L (aI (if x < y then y else x) :: S) σ) : PW p l e R s m args below meth c M D cI cQ α A Q pc L (aI y :: aI x :: S) σ := by
  intro hlen H locs ls hP hS hl rL rS rσ
  have ry : R32 y := RL_hd rS
  have rx : R32 x := RL_hd (RL_tl rS)
  refine va_mmax X.1 X.2.1 (by rw [X.2.2.1, ← hlen]; exact hl.1.symm) X.2.2.2.2.2.1 (X.2.2.2.2.2.2.1 _ hk) (X.2.2.2.2.2.2.1 _ mx_static) (X.2.2.2.2.2.2.1 _ mx_init) (X.2.2.2.2.2.2.1 _ mx_code) hR1 (by rw [catS_sum]; omega) (Nat.zero_le _) (Nat.zero_le _) hd ?_
  have e1 : (if Int32.ofInt x < Int32.ofInt y then Int32.ofInt y else Int32.ofInt x) = Int32.ofInt (if x < y then y else x) := by
    by_cases q : x < y
    · rw [if_pos q, if_pos ((i32_lt rx ry).mpr q)]
    · rw [if_neg q, if_neg (fun z => q ((i32_lt rx ry).mp z))]
  rw [e1]
  refine h hlen H locs ls hP hS hl rL (RL_cons ?_ (RL_tl (RL_tl rS))) rσ
  show R32 _
  split
  · exact ry
  · exact rx
end SND
