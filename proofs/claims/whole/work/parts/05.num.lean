/-! numbers -/
abbrev R32 (x : Int) : Prop := -2147483648 ≤ x ∧ x ≤ 2147483647
theorem wr_bmod (x : Int) : wr x = x.bmod (2 ^ 32) := by
  unfold wr Int.bmod
  dsimp only
  split <;> omega
theorem wr_R32 (x : Int) : R32 (wr x) := by unfold wr R32; omega
theorem wr_id {x : Int} (h : R32 x) : wr x = x := by unfold R32 at h; unfold wr; omega
theorem i32_toInt (x : Int) : (Int32.ofInt x).toInt = wr x := by
  rw [wr_bmod, Int32.toInt_ofInt]
theorem i32_of {x : Int} (h : R32 x) : (Int32.ofInt x).toInt = x := by rw [i32_toInt, wr_id h]
theorem i32_R (x : Int32) : R32 x.toInt := by
  have h1 := Int32.le_toInt x
  have h2 := Int32.toInt_lt x
  unfold R32; omega
theorem i32_ofto (x : Int32) : Int32.ofInt x.toInt = x := Int32.toInt_inj.mp (i32_of (i32_R x))
theorem i32_wr (x : Int) : Int32.ofInt (wr x) = Int32.ofInt x := Int32.toInt_inj.mp (by rw [i32_toInt, i32_toInt, wr_id (wr_R32 x)])
theorem i32_add (x y : Int) : Int32.ofInt x + Int32.ofInt y = Int32.ofInt (x + y) := Int32.toInt_inj.mp (by
  rw [Int32.toInt_add, i32_toInt, i32_toInt, i32_toInt, ← wr_bmod]; unfold wr; omega)
theorem i32_sub (x y : Int) : Int32.ofInt x - Int32.ofInt y = Int32.ofInt (x - y) := Int32.toInt_inj.mp (by
  rw [Int32.toInt_sub, i32_toInt, i32_toInt, i32_toInt, ← wr_bmod]; unfold wr; omega)
theorem i32_neg (x : Int) : - Int32.ofInt x = Int32.ofInt (-x) := Int32.toInt_inj.mp (by
  rw [Int32.toInt_neg, i32_toInt, i32_toInt, ← wr_bmod]; unfold wr; omega)
theorem wr_eq_of {a b : Int} (h : a % 4294967296 = b % 4294967296) : wr a = wr b := by unfold wr; omega
theorem wr_mod (x : Int) : wr x % 4294967296 = x % 4294967296 := by unfold wr; omega
theorem i32_mul (x y : Int) : Int32.ofInt x * Int32.ofInt y = Int32.ofInt (x * y) := Int32.toInt_inj.mp (by
  rw [Int32.toInt_mul, i32_toInt, i32_toInt, i32_toInt, ← wr_bmod]
  apply wr_eq_of
  rw [Int.mul_emod, wr_mod, wr_mod, ← Int.mul_emod])
theorem i32_lt {x y : Int} (hx : R32 x) (hy : R32 y) : Int32.ofInt x < Int32.ofInt y ↔ x < y := by
  rw [Int32.lt_iff_toInt_lt, i32_of hx, i32_of hy]
theorem i32_le {x y : Int} (hx : R32 x) (hy : R32 y) : Int32.ofInt x ≤ Int32.ofInt y ↔ x ≤ y := by
  rw [Int32.le_iff_toInt_le, i32_of hx, i32_of hy]
theorem i32_eq {x y : Int} (hx : R32 x) (hy : R32 y) : Int32.ofInt x = Int32.ofInt y ↔ x = y := by
  rw [← Int32.toInt_inj, i32_of hx, i32_of hy]
theorem R32_0 : R32 0 := by decide
theorem i32_0 : Int32.ofInt 0 = 0 := rfl
theorem i32_div {x y : Int} (hx : R32 x) (hy : R32 y) : Int32.ofInt x / Int32.ofInt y = Int32.ofInt (x.tdiv y) := Int32.toInt_inj.mp (by
  rw [Int32.toInt_div, i32_of hx, i32_of hy, i32_toInt, wr_bmod])
theorem R32_tmod {x y : Int} (hy : R32 y) (h0 : ¬ y = 0) : R32 (x.tmod y) := by
  unfold R32 at hy ⊢
  rcases Int.lt_or_gt_of_ne h0 with h | h
  · have h2 := tmod_bounds (a := x) (M := -y) (by omega)
    rw [Int.tmod_neg] at h2
    omega
  · have h2 := tmod_bounds (a := x) (M := y) h
    omega
theorem i32_rem {x y : Int} (hx : R32 x) (hy : R32 y) (h0 : ¬ y = 0) : Int32.ofInt x - Int32.ofInt x / Int32.ofInt y * Int32.ofInt y = Int32.ofInt (x.tmod y) := Int32.toInt_inj.mp (by
  rw [rem_toInt, i32_of hx, i32_of hy, i32_toInt, wr_id (R32_tmod hy h0)])
theorem i64_toInt {x : Int} (h : R32 x) : (Int64.ofInt x).toInt = x := by
  rw [Int64.toInt_ofInt]
  unfold R32 at h
  have e : (Int64.size : Int) = 18446744073709551616 := rfl
  unfold Int.bmod
  rw [e]
  dsimp only
  split <;> omega
theorem i64_i2l {x : Int} (h : R32 x) : (Int32.ofInt x).toInt64 = Int64.ofInt x := Int64.toInt_inj.mp (by
  rw [i64_toInt h, Int32.toInt_toInt64, i32_of h])
theorem i64_lt {x y : Int} (hx : R32 x) (hy : R32 y) : Int64.ofInt x < Int64.ofInt y ↔ x < y := by
  rw [Int64.lt_iff_toInt_lt, i64_toInt hx, i64_toInt hy]
theorem i64_eq {x y : Int} (hx : R32 x) (hy : R32 y) : Int64.ofInt x = Int64.ofInt y ↔ x = y := by
  rw [← Int64.toInt_inj, i64_toInt hx, i64_toInt hy]
theorem i32_clamp {x : Int} (h : R32 x) : (Int32.ofInt x).toNatClampNeg = x.toNat := by
  show (Int32.ofInt x).toInt.toNat = _
  rw [i32_of h]
theorem i32_in {x : Int} {n : Nat} (h : R32 x) (h1 : 0 ≤ x) (h2 : x < n) : vp_in (Int32.ofInt x) n := by
  rw [vp_in_iff, i32_of h]; exact ⟨h1, h2⟩
theorem lg_cmpI {x y : Int} (hx : R32 x) (hy : R32 y) : lg_cmp (Int64.ofInt x) (Int64.ofInt y) = Int32.ofInt (if x < y then -1 else if x = y then 0 else 1) := by
  unfold lg_cmp
  simp only [gt_iff_lt, i64_lt hy hx, i64_eq hx hy]
  by_cases h1 : x < y
  · rw [if_neg (by omega), if_neg (by omega), if_pos h1]; rfl
  · by_cases h2 : x = y
    · rw [if_neg (by omega), if_pos h2, if_neg h1, if_pos h2]; rfl
    · rw [if_pos (by omega), if_neg h1, if_neg h2]; rfl

/-! words -/
def lw_good : List Cond := lw_tbl.filter goodWord
def isNest : Cond → Bool
  | .methodLinkNest .. => true
  | .fieldLinkNest .. => true
  | _ => false
def lw_nest : List Cond := tables_1.filter isNest
theorem lw_goodIn : GoodIn lw_good lw_good := fun w h => ⟨h, good_of_word (List.mem_filter.mp h).2⟩
theorem lw_goodTbl : GoodIn lw_tbl lw_good := fun w h => ⟨(List.mem_filter.mp h).1, good_of_word (List.mem_filter.mp h).2⟩
theorem lw_nest_mem {w : Cond} (h : w ∈ lw_nest) : w ∈ lw_tbl := List.mem_append_right _ (List.mem_filter.mp h).1
theorem lw_nest_is {w : Cond} (h : w ∈ lw_nest) : (∃ a i x k, w = .methodLinkNest a i x k) ∨ ∃ a i b n d k, w = .fieldLinkNest a i b n d k := by
  have h2 := (List.mem_filter.mp h).2
  cases w <;> first | exact Or.inl ⟨_, _, _, _, rfl⟩ | exact Or.inr ⟨_, _, _, _, _, _, rfl⟩ | (exact absurd h2 (by simp [isNest]))
def NWs (U : State) : Prop := ∀ w ∈ lw_nest, va_Nw w U
theorem NWs.warm {s U : State} (hW : s.WarmedH U.vm) (h : NWs s) : NWs U := fun w hw => by
  have h1 := h w hw
  rcases lw_nest_is hw with ⟨a, i, x, k, rfl⟩ | ⟨a, i, b, n, d, k, rfl⟩
  · exact va_Nw.warmM hW h1
  · exact va_Nw.warmF hW h1
theorem NWs.same {u U : State} (hv : u.vm = U.vm) (h : NWs u) : NWs U := fun w hw => by
  have h1 := h w hw
  rcases lw_nest_is hw with ⟨a, i, x, k, rfl⟩ | ⟨a, i, b, n, d, k, rfl⟩
  · exact va_Nw.same rfl hv h1
  · exact va_Nw.same rfl hv h1
theorem gd_t {w : Cond} (h : w ∈ tables_1) (g : goodWord w = true) : w ∈ lw_good := List.mem_filter.mpr ⟨List.mem_append_right _ h, g⟩
theorem mt1 {w : Cond} (i : Nat) (h : tables_1_1[i]? = some w) : w ∈ tables_1 := List.mem_append_left _ (List.mem_of_getElem? h)
theorem mt2 {w : Cond} (i : Nat) (h : tables_1_2[i]? = some w) : w ∈ tables_1 := List.mem_append_right _ (List.mem_append_left _ (List.mem_of_getElem? h))
theorem mt3 {w : Cond} (i : Nat) (h : tables_1_3[i]? = some w) : w ∈ tables_1 := List.mem_append_right _ (List.mem_append_right _ (List.mem_append_left _ (List.mem_of_getElem? h)))
theorem mt4 {w : Cond} (i : Nat) (h : tables_1_4[i]? = some w) : w ∈ tables_1 := List.mem_append_right _ (List.mem_append_right _ (List.mem_append_right _ (List.mem_append_left _ (List.mem_of_getElem? h))))
theorem mt5 {w : Cond} (i : Nat) (h : tables_1_5[i]? = some w) : w ∈ tables_1 := List.mem_append_right _ (List.mem_append_right _ (List.mem_append_right _ (List.mem_append_right _ (List.mem_append_left _ (List.mem_of_getElem? h)))))
theorem mt6 {w : Cond} (i : Nat) (h : tables_1_6[i]? = some w) : w ∈ tables_1 := List.mem_append_right _ (List.mem_append_right _ (List.mem_append_right _ (List.mem_append_right _ (List.mem_append_right _ (List.mem_append_left _ (List.mem_of_getElem? h))))))
theorem mt7 {w : Cond} (i : Nat) (h : tables_1_7[i]? = some w) : w ∈ tables_1 := List.mem_append_right _ (List.mem_append_right _ (List.mem_append_right _ (List.mem_append_right _ (List.mem_append_right _ (List.mem_append_right _ (List.mem_of_getElem? h))))))
theorem mtN {w : Cond} (h : w ∈ tables_1) (g : isNest w = true) : w ∈ lw_nest := List.mem_filter.mpr ⟨h, g⟩
theorem gd_p {y : MethodName} {n : Nat} (h : (y, n) ∈ lw_privs) : Cond.selects y.cls y y ∈ lw_good := List.mem_filter.mpr ⟨List.mem_append_left _ (List.mem_map.mpr ⟨(y, n), h, rfl⟩), rfl⟩
