/-! element (written by genexc.py) -/
def elK (σ : Sg) (x y : Int) : Int := if 0 ≤ x ∧ x < 8 then (if σ 92 x.toNat = 2 ∧ 0 ≤ y ∧ y < σ 94 x.toNat then 0 else 2) else 1
def elV (σ : Sg) (x y : Int) : Int := σ 95 (100 * x.toNat + y.toNat)
def wsE : List Cond := Cond.code ⟨RX6, "element", "(II)J"⟩ prog_1_method_38_code 3 (some .long) :: lw_good
def rkE : Room := { frames := 40, cells := 1, slots := 6, locals := 1200 }
theorem x_hasPlace1 {k d n : Nat} {i : Int} {σ : Sg} {K : Kt} (hd : d < 8) (e3 : σ (61 + 3 * d) 3 = n) (h1 : 0 ≤ i ∧ i < n → K 1 σ) (h0 : ¬ (0 ≤ i ∧ i < n) → K 0 σ) : wpCall (k + 1) iX2_hasPlace [aR (61 + 3 * d), aI i] σ K :=
  bX2_hasPlace ⟨fun q => ⟨by decide, h0 (by omega)⟩, fun q => ⟨(shf_d hd).1, fun q2 => ⟨by decide, h1 (by omega)⟩, fun q2 => ⟨by decide, h0 (by omega)⟩⟩⟩
set_option maxHeartbeats 4000000 in
set_option maxRecDepth 100000 in
theorem c_element (l : Launch) (hl : l.stackTraces = false) (D : va_G) (cI cQ : ClassId) (α : Nat → Nat) (σ T P : Sg) (sz : Nat) (x y : Int) (hI : Inv σ T P) (rσ : RS σ) (rx : R32 x) (ry : R32 y) (hD0 : va_D (fun _ => True) (WS cI cQ α σ)) :
    vx_Met l ⟨RX6, "element", "(II)J"⟩ wsE rkE (va_Pc [.ref (α 45), .int (Int32.ofInt x), .int (Int32.ofInt y)] (fun U => (U.heap.size = sz ∧ Wd D cI cQ α σ U) ∧ XE (va_A (WS cI cQ α σ) sz) U)) (va_Ql (fun (r : Int64) (_ : Unit) => elK σ x y = 0 ∧ r.toInt = elV σ x y) (fun _ t => va_P D vwCl (WS cI cQ α σ) t.heap) (va_A (WS cI cQ α σ) sz)) (vx_X (fun _ : Unit => elK σ x y ≠ 0) (fun E _ t => E = (if elK σ x y = 1 then xnA else xnS) ∧ va_P D vwCl (WS cI cQ α σ) t.heap) (va_A (WS cI cQ α σ) sz)) 1 6 (va_A (WS cI cQ α σ) sz) := by
  refine vx_ofW (cc := prog_1_method_38_code) (maxL := 3) (ret := some .long) (by decide) rfl ?_
  intro p e s m args below meth c s₁ B hml hno hv
  obtain ⟨rfl, ⟨hsz, hP, hK, hN⟩, hX⟩ := hv
  subst hsz
  have hx := B.exec
  have hb := B.bytes
  have hr := B.returns
  have hlocks := B.notSynchronized
  have hts0 := atoms_spec (ws := wsE) B.pre
  have hts : ∀ w ∈ lw_good, w.before #[.ref (α 45), .int (Int32.ofInt x), .int (Int32.ofInt y)] s = true := fun w hw => hts0 w (List.mem_cons_of_mem _ hw)
  have hown : s.vm.findClass RX6 = some m.cls := findClass_of_methodNamed B.named
  have hD := hD0.self (sz := s.heap.size)
  generalize hAe : va_A (WS cI cQ α σ) s.heap.size = A at hD hX ⊢
  have hA : ∀ q : Nat, s.heap.size ≤ q → A q := fun q h => by rw [← hAe]; exact Or.inr h
  have hS : va_S A s.heap s.heap [] := va_S.rf
  have X : Gx p s m #[.ref (α 45), .int (Int32.ofInt x), .int (Int32.ofInt y)] meth c prog_1_method_38_code 3 RX6 D cI cQ α A := ⟨⟨hx, hb, hml, hown, hts⟩, hK, hN, hA, va_D_ws hD⟩
  have hle := lv_entry ([.ref (α 45), .int (Int32.ofInt x), .int (Int32.ofInt y)]) (n := 3) (Nat.le_of_ble_eq_true rfl)
  rw [lg_entry_eq]
  generalize (lg_sl ([.ref (α 45), .int (Int32.ofInt x), .int (Int32.ofInt y)]) ++ List.replicate (3 - (lg_sl ([.ref (α 45), .int (Int32.ofInt x), .int (Int32.ofInt y)])).length) Slot.unset).toArray = ls at hle ⊢
  have hl0 : lv_has ls 3 [(0, .ref (α 45)), (1, .int (Int32.ofInt x)), (2, .int (Int32.ofInt y))] := hle
  have thr : ∀ (pc ik is ic : Nat) (text cls : String) (H : Heap) (locs : List Loc), XTK RX6 ik ic cls → (RX6, is, text) ∈ strE → cls = (if elK σ x y = 1 then xnA else xnS) → elK σ x y ≠ 0 → va_P D vwCl (WS cI cQ α σ) H → va_S A s.heap H locs → decode prog_1_method_38_code pc = .ok (.new ik, 3) → decode prog_1_method_38_code (pc + 3) = .ok (.dup, 1) → decode prog_1_method_38_code (pc + 4) = .ok (.ldc_w is, 3) → decode prog_1_method_38_code (pc + 7) = .ok (.invokespecial ic, 3) → decode prog_1_method_38_code (pc + 10) = .ok (.athrow, 1) → W p l e (headSpec wsE rkE).room s m #[.ref (α 45), .int (Int32.ofInt x), .int (Int32.ofInt y)] below meth c H locs 0 0 (vx_MQ below (va_Ql (fun (r : Int64) (_ : Unit) => elK σ x y = 0 ∧ r.toInt = elV σ x y) (fun _ t => va_P D vwCl (WS cI cQ α σ) t.heap) A) (vx_X (fun _ : Unit => elK σ x y ≠ 0) (fun E _ t => E = (if elK σ x y = 1 then xnA else xnS) ∧ va_P D vwCl (WS cI cQ α σ) t.heap) A) #[.ref (α 45), .int (Int32.ofInt x), .int (Int32.ofInt y)] s 1 6 A) (F0 m pc ls []) := by
    intro pc ik is ic text cls H locs ok hst hcl hc hP hS d0 d3 d4 d7 d10
    obtain ⟨sa, hsa⟩ := hX.2.1 _ hst
    refine vx_throwSW (names := nmsE) hx hb hl hown ok.2.2.2.2.2.2 (by decide +kernel) (hts _ ok.2.2.2.1) (hts _ ok.2.2.2.2.1) hsa (ok.at hX hts) ok.2.2.1 hX.1.1 hX.1.2 hS (by rw [hml]; exact hl0.1) d0 d3 d4 d7 d10 (fun x hx9 => (hno x hx9).elim) (by decide) (by decide) (by decide) (by decide) hlocks (fun t hal hz hq => ⟨(), hc, ⟨hcl, hP.kept (fun k x hk => hq x.1 ((hP k x hk).lt))⟩, Nat.le_trans hS.1 hz, fun q h1 h2 => by rw [hq q (Nat.lt_of_lt_of_le h1 hS.1)]; exact hS.2.1 q h1 h2⟩) hS.2.2 (by decide) (by decide)
  refine lv_iload_n hx hb (show decode prog_1_method_38_code 0 = .ok (.iload_n 1, 1) by decide +kernel) rfl (lv_at hl0 1 rfl) ?_
  refine gx_call X (mid := iX6_isShelf) (M := mX6_isShelf) (as := [aI x]) (rest := []) (K := fun r σ1 => (r = 1 ∧ (0 ≤ x ∧ x < 8) ∨ r = 0 ∧ ¬ (0 ≤ x ∧ x < 8)) ∧ σ1 = σ) rfl (Or.inl (gd_t (mt2 52 rfl) rfl)) (Or.inr rfl) (x_isShelf (d := 19) (fun g => ⟨Or.inl ⟨rfl, g⟩, rfl⟩) (fun g => ⟨Or.inr ⟨rfl, g⟩, rfl⟩)) (RL_cons rx RL_nil) rσ (Or.inr ⟨rfl, (show decode prog_1_method_38_code 1 = .ok (.invokestatic 264, 3) by decide +kernel), rfl⟩) hP hS hl0.1 (Nat.le_of_ble_eq_true rfl) ⟨by decide, by decide⟩ ⟨by decide, by decide⟩ (fun r σ1 H locs hK1 _ hP hS => ?_)
  obtain ⟨hr1, hs1⟩ := hK1
  rw [hs1] at hP
  refine lv_if_ne (tgt := 18) hx hb (show decode prog_1_method_38_code 4 = .ok (.ifCond .ne 14, 3) by decide +kernel) (by decide) (fun h0 => ?_) (fun h0 => thr 7 288 290 292 "no such shelf" xnA H locs xok_3 (by decide) ?_ ?_ hP hS (show decode prog_1_method_38_code 7 = .ok (.new 288, 3) by decide +kernel) (show decode prog_1_method_38_code 10 = .ok (.dup, 1) by decide +kernel) (show decode prog_1_method_38_code 11 = .ok (.ldc_w 290, 3) by decide +kernel) (show decode prog_1_method_38_code 14 = .ok (.invokespecial 292, 3) by decide +kernel) (show decode prog_1_method_38_code 17 = .ok (.athrow, 1) by decide +kernel))
  rotate_left
  · have g : ¬ (0 ≤ x ∧ x < 8) := hr1.elim (fun z => by rw [h0] at z; exact absurd z.1 (by decide)) (fun z => z.2)
    unfold elK; rw [if_neg g, if_pos rfl]
  · have g : ¬ (0 ≤ x ∧ x < 8) := hr1.elim (fun z => by rw [h0] at z; exact absurd z.1 (by decide)) (fun z => z.2)
    unfold elK; rw [if_neg g]; decide
  have g : 0 ≤ x ∧ x < 8 := hr1.elim (fun z => z.2) (fun z => absurd (Int32.toInt_inj.mp (z.1.trans (show (0 : Int) = (0 : Int32).toInt from rfl))) h0)
  obtain ⟨d, hxd, hd⟩ := in8 g
  subst hxd
  have hE0 : elK σ (d : Nat) y = if σ 92 d = 2 ∧ 0 ≤ y ∧ y < σ 94 d then 0 else 2 := by
    unfold elK; rw [if_pos g, Int.toNat_natCast]
  have w6 := (fld_at (cI := cI) (cQ := cQ) (α := α) (σ := σ) (k := 6) (a := 45) vwf_6 (by decide) rfl)
  have w20 := (fld_at (cI := cI) (cQ := cQ) (α := α) (σ := σ) (k := 0) vwf_2 (by decide) (shf_d hd).1)
  have w24 := (fld_at (cI := cI) (cQ := cQ) (α := α) (σ := σ) (k := 4) vwf_2 (by decide) (shf_d hd).1)
  have e0 : (Int32.ofInt (σ (61 + 3 * d) 0)).toInt = σ 92 d := by rw [i32_of (rσ _ _), SH_0 (hI.2.2.2 d hd)]
  refine lv_aload_n hx hb (show decode prog_1_method_38_code 18 = .ok (.aload_n 0, 1) by decide +kernel) rfl (lv_at hl0 0 rfl) ?_
  refine va_get (D := D) (ci := 6) (k := 6) (v := .ref (α 60)) hx hb hts vwf_6.2.2.2.1 hown hK hP 45 w6.1 rfl (by decide) (hts _ (gd_t (mt2 21 rfl) rfl)) (fun _ h9 => h9) w6.2 (show decode prog_1_method_38_code 19 = .ok (.getfield 45, 3) by decide +kernel) ?_
  refine lv_iload_n hx hb (show decode prog_1_method_38_code 22 = .ok (.iload_n 1, 1) by decide +kernel) rfl (lv_at hl0 1 rfl) ?_
  refine va_aldq (D := D) hx hb hK hP 60 1 (WS_get (by decide)) rfl (i32_in rx (by omega) (by omega)) (show decode prog_1_method_38_code 23 = .ok (.aaload, 1) by decide +kernel) ?_
  rw [i32_clamp rx, Int.toNat_natCast]
  refine va_getN (D := D) (ci := 2) (k := 0) (v := .int (Int32.ofInt (σ (61 + 3 * d) 0))) hx hb hts vwf_2.2.2.2.1 hown hK hP (61 + 3 * d) w20.1 rfl (by decide) (va_Nw.use rfl (hN _ (mtN (mt1 232 rfl) rfl))) (fun _ h9 => h9) w20.2 (show decode prog_1_method_38_code 24 = .ok (.getfield 267, 3) by decide +kernel) ?_
  refine lv_iconst (v := 2) hx hb (show decode prog_1_method_38_code 27 = .ok (.iconst 2, 1) by decide +kernel) (by decide) ?_
  refine lv_icmp_eq (tgt := 42) hx hb (show decode prog_1_method_38_code 28 = .ok (.if_icmp .eq 14, 3) by decide +kernel) (by decide) (fun h2 => ?_) (fun h2 => thr 31 295 297 299 "no row" xnS H locs xok_4 (by decide) ?_ ?_ hP hS (show decode prog_1_method_38_code 31 = .ok (.new 295, 3) by decide +kernel) (show decode prog_1_method_38_code 34 = .ok (.dup, 1) by decide +kernel) (show decode prog_1_method_38_code 35 = .ok (.ldc_w 297, 3) by decide +kernel) (show decode prog_1_method_38_code 38 = .ok (.invokespecial 299, 3) by decide +kernel) (show decode prog_1_method_38_code 41 = .ok (.athrow, 1) by decide +kernel))
  rotate_left
  · have n2 : ¬ σ 92 d = 2 := fun q => h2 (Int32.toInt_inj.mp (by rw [e0, q]; rfl))
    have e2 : elK σ (d : Nat) y = 2 := by rw [hE0, if_neg (fun z => n2 z.1)]
    rw [e2, if_neg (by decide)]
  · have n2 : ¬ σ 92 d = 2 := fun q => h2 (Int32.toInt_inj.mp (by rw [e0, q]; rfl))
    have e2 : elK σ (d : Nat) y = 2 := by rw [hE0, if_neg (fun z => n2 z.1)]
    rw [e2]; decide
  have k2 : σ 92 d = 2 := by rw [← e0, h2]; rfl
  obtain ⟨n, e94, hn, -, e3, -, hel, -⟩ := SH_rw (hI.2.2.2 d hd) k2
  refine lv_aload_n hx hb (show decode prog_1_method_38_code 42 = .ok (.aload_n 0, 1) by decide +kernel) rfl (lv_at hl0 0 rfl) ?_
  refine va_get (D := D) (ci := 6) (k := 6) (v := .ref (α 60)) hx hb hts vwf_6.2.2.2.1 hown hK hP 45 w6.1 rfl (by decide) (hts _ (gd_t (mt2 21 rfl) rfl)) (fun _ h9 => h9) w6.2 (show decode prog_1_method_38_code 43 = .ok (.getfield 45, 3) by decide +kernel) ?_
  refine lv_iload_n hx hb (show decode prog_1_method_38_code 46 = .ok (.iload_n 1, 1) by decide +kernel) rfl (lv_at hl0 1 rfl) ?_
  refine va_aldq (D := D) hx hb hK hP 60 1 (WS_get (by decide)) rfl (i32_in rx (by omega) (by omega)) (show decode prog_1_method_38_code 47 = .ok (.aaload, 1) by decide +kernel) ?_
  rw [i32_clamp rx, Int.toNat_natCast]
  refine lv_iload_n hx hb (show decode prog_1_method_38_code 48 = .ok (.iload_n 2, 1) by decide +kernel) rfl (lv_at hl0 2 rfl) ?_
  refine gx_call X (mid := iX2_hasPlace) (M := mX2_hasPlace) (as := [aR (61 + 3 * d), aI y]) (rest := []) (K := fun r σ1 => (r = 1 ∧ (0 ≤ y ∧ y < n) ∨ r = 0 ∧ ¬ (0 ≤ y ∧ y < n)) ∧ σ1 = σ) rfl (Or.inr (mtN (mt4 143 rfl) rfl)) (Or.inr rfl) (x_hasPlace1 (k := 19) hd e3 (fun g => ⟨Or.inl ⟨rfl, g⟩, rfl⟩) (fun g => ⟨Or.inr ⟨rfl, g⟩, rfl⟩)) (RL_cons True.intro (RL_cons ry RL_nil)) rσ (Or.inl ⟨rfl, (show decode prog_1_method_38_code 49 = .ok (.invokevirtual 282, 3) by decide +kernel), _, _, rfl, (shf_d hd).1, rfl⟩) hP hS hl0.1 (Nat.le_of_ble_eq_true rfl) ⟨by decide, by decide⟩ ⟨by decide, by decide⟩ (fun r2 σ2 H locs hK2 _ hP hS => ?_)
  obtain ⟨hr2, hs2⟩ := hK2
  rw [hs2] at hP
  refine lv_if_ne (tgt := 66) hx hb (show decode prog_1_method_38_code 52 = .ok (.ifCond .ne 14, 3) by decide +kernel) (by decide) (fun h0 => ?_) (fun h0 => thr 55 295 300 299 "no such place" xnS H locs xok_4 (by decide) ?_ ?_ hP hS (show decode prog_1_method_38_code 55 = .ok (.new 295, 3) by decide +kernel) (show decode prog_1_method_38_code 58 = .ok (.dup, 1) by decide +kernel) (show decode prog_1_method_38_code 59 = .ok (.ldc_w 300, 3) by decide +kernel) (show decode prog_1_method_38_code 62 = .ok (.invokespecial 299, 3) by decide +kernel) (show decode prog_1_method_38_code 65 = .ok (.athrow, 1) by decide +kernel))
  rotate_left
  · have g : ¬ (0 ≤ y ∧ y < n) := hr2.elim (fun z => by rw [h0] at z; exact absurd z.1 (by decide)) (fun z => z.2)
    have e2 : elK σ (d : Nat) y = 2 := by rw [hE0, if_neg (fun z => g ⟨z.2.1, by rw [← e94]; exact z.2.2⟩)]
    rw [e2, if_neg (by decide)]
  · have g : ¬ (0 ≤ y ∧ y < n) := hr2.elim (fun z => by rw [h0] at z; exact absurd z.1 (by decide)) (fun z => z.2)
    have e2 : elK σ (d : Nat) y = 2 := by rw [hE0, if_neg (fun z => g ⟨z.2.1, by rw [← e94]; exact z.2.2⟩)]
    rw [e2]; decide
  have g2 : 0 ≤ y ∧ y < n := hr2.elim (fun z => z.2) (fun z => absurd (Int32.toInt_inj.mp (z.1.trans (show (0 : Int) = (0 : Int32).toInt from rfl))) h0)
  refine lv_aload_n hx hb (show decode prog_1_method_38_code 66 = .ok (.aload_n 0, 1) by decide +kernel) rfl (lv_at hl0 0 rfl) ?_
  refine va_get (D := D) (ci := 6) (k := 6) (v := .ref (α 60)) hx hb hts vwf_6.2.2.2.1 hown hK hP 45 w6.1 rfl (by decide) (hts _ (gd_t (mt2 21 rfl) rfl)) (fun _ h9 => h9) w6.2 (show decode prog_1_method_38_code 67 = .ok (.getfield 45, 3) by decide +kernel) ?_
  refine lv_iload_n hx hb (show decode prog_1_method_38_code 70 = .ok (.iload_n 1, 1) by decide +kernel) rfl (lv_at hl0 1 rfl) ?_
  refine va_aldq (D := D) hx hb hK hP 60 1 (WS_get (by decide)) rfl (i32_in rx (by omega) (by omega)) (show decode prog_1_method_38_code 71 = .ok (.aaload, 1) by decide +kernel) ?_
  rw [i32_clamp rx, Int.toNat_natCast]
  refine va_getN (D := D) (ci := 2) (k := 4) (v := .ref (α (61 + 3 * d + 2))) hx hb hts vwf_2.2.2.2.1 hown hK hP (61 + 3 * d) w24.1 rfl (by decide) (va_Nw.use rfl (hN _ (mtN (mt2 3 rfl) rfl))) (fun _ h9 => h9) w24.2 (show decode prog_1_method_38_code 72 = .ok (.getfield 302, 3) by decide +kernel) ?_
  refine lv_iload_n hx hb (show decode prog_1_method_38_code 75 = .ok (.iload_n 2, 1) by decide +kernel) rfl (lv_at hl0 2 rfl) ?_
  have hc100 : LNl.getD (61 + 3 * d + 2) 0 = 100 := by
    exact Int.ofNat.inj ((shf_d hd).2.2.trans (show (100 : Int) = Int.ofNat 100 from rfl))
  refine va_iald (D := D) hx hb hK hP (61 + 3 * d + 2) 0 (by rw [WS_get (by omega), wcell_arr (LEN_lt (by rw [(shf_d hd).2.2]; decide)).2]) rfl (i32_in ry g2.1 (by omega)) (show decode prog_1_method_38_code 76 = .ok (.iaload, 1) by decide +kernel) ?_
  rw [i32_clamp ry]
  refine lv_i2l hx hb (show decode prog_1_method_38_code 77 = .ok (.i2l, 1) by decide +kernel) rfl ?_
  refine vx_ret ?_
  refine W.widen (k := 1) (n := 6) (by decide) (by decide) ?_
  exact W.lret hx hb hr (fun t9 ht9 hW9 => ⟨⟨_, (), rfl, ⟨by rw [hE0, if_pos ⟨k2, g2.1, by rw [e94]; exact g2.2⟩], by
    rw [Int32.toInt_toInt64, i32_of (rσ _ _)]
    unfold elV
    rw [Int.toNat_natCast]
    exact hel _ (by omega)⟩, by show va_P D vwCl (WS cI cQ α σ) t9.heap; rw [ht9]; exact hP⟩, hS.F ht9⟩) hS.2.2 (show decode prog_1_method_38_code 78 = .ok (.lreturn, 1) by decide +kernel)
