/-! toss (written by genexc.py) -/
def tossF (σ : Sg) (x : Int) : Int := if refK σ x = 0 then (if σ 96 x.toNat = 6 ∨ σ 97 x.toNat = 0 then -15 else if σ 96 x.toNat = 7 then wr (200 + lett (σ 96 x.toNat) (σ 97 x.toNat) (σ 98 x.toNat) (σ 99 x.toNat)) else if σ 96 x.toNat = 5 then wr (100 + σ 97 x.toNat) else σ 97 x.toNat) else refK σ x
theorem i32_addT (x y : Int32) : (x + y).toInt = wr (x.toInt + y.toInt) := by
  rw [← i32_toInt, ← i32_add, i32_ofto, i32_ofto]
def hhT : List (Nat × Nat × Nat × Nat) := [(23, 27, 30, 323), (23, 27, 41, 288), (23, 27, 51, 295)]
def wsT : List Cond := Cond.codeWith ⟨RX6, "toss", "(I)I"⟩ prog_1_method_41_code 5 (some .int) hhT :: lw_good
def rkT : Room := { frames := 40, cells := 1, slots := 6, locals := 1200 }
set_option maxHeartbeats 4000000 in
set_option maxRecDepth 100000 in
theorem c_toss (l : Launch) (hl : l.stackTraces = false) (D : va_G) (cI cQ : ClassId) (α : Nat → Nat) (σ T P : Sg) (sz : Nat) (x : Int) (hI : Inv σ T P) (rσ : RS σ) (rx : R32 x) (hD0 : va_D (fun _ => True) (WS cI cQ α σ)) :
    vx_Met l ⟨RX6, "toss", "(I)I"⟩ wsT rkT (va_Pc [.ref (α 45), .int (Int32.ofInt x)] (fun U => (U.heap.size = sz ∧ Wd D cI cQ α σ U) ∧ XE (va_A (WS cI cQ α σ) sz) U)) (va_Qi (fun (r : Int32) (_ : Unit) => r.toInt = tossF σ x) (fun _ t => va_P D vwCl (WS cI cQ α σ) t.heap) (va_A (WS cI cQ α σ) sz)) (vx_X (fun _ : Unit => False) (fun _ _ _ => True) (va_A (WS cI cQ α σ) sz)) 1 6 (va_A (WS cI cQ α σ) sz) := by
  refine vx_ofWH (cc := prog_1_method_41_code) (maxL := 5) (ret := some .int) (hh := hhT) (by decide) rfl ?_
  intro p e s m args below meth c s₁ B hml hv
  obtain ⟨rfl, ⟨hsz, hP, hK, hN⟩, hX⟩ := hv
  subst hsz
  have hx := B.exec
  have hb := B.bytes
  have hr := B.returns
  have hlocks := B.notSynchronized
  have hts0 := atoms_spec (ws := wsT) B.pre
  have htab : c.exceptionTable.toList = tableOf hhT := vx_table (x := ⟨RX6, "toss", "(I)I"⟩) B (hts0 _ List.mem_cons_self)
  have hts : ∀ w ∈ lw_good, w.before #[.ref (α 45), .int (Int32.ofInt x)] s = true := fun w hw => hts0 w (List.mem_cons_of_mem _ hw)
  have hown : s.vm.findClass RX6 = some m.cls := findClass_of_methodNamed B.named
  have hD := hD0.self (sz := s.heap.size)
  generalize hAe : va_A (WS cI cQ α σ) s.heap.size = A at hD hX ⊢
  have hA : ∀ q : Nat, s.heap.size ≤ q → A q := fun q h => by rw [← hAe]; exact Or.inr h
  have hS : va_S A s.heap s.heap [] := va_S.rf
  have X : Gx p s m #[.ref (α 45), .int (Int32.ofInt x)] meth c prog_1_method_41_code 5 RX6 D cI cQ α A := ⟨⟨hx, hb, hml, hown, hts⟩, hK, hN, hA, va_D_ws hD⟩
  have hle := lv_entry ([.ref (α 45), .int (Int32.ofInt x)]) (n := 5) (Nat.le_of_ble_eq_true rfl)
  rw [lg_entry_eq]
  generalize (lg_sl ([.ref (α 45), .int (Int32.ofInt x)]) ++ List.replicate (5 - (lg_sl ([.ref (α 45), .int (Int32.ofInt x)])).length) Slot.unset).toArray = ls at hle ⊢
  have hl0 : lv_has ls 5 [(0, .ref (α 45)), (1, .int (Int32.ofInt x))] := hle
  refine lv_aload_n hx hb (show decode prog_1_method_41_code 0 = .ok (.aload_n 0, 1) by decide +kernel) rfl (lv_at hl0 0 rfl) ?_
  refine lv_iload_n hx hb (show decode prog_1_method_41_code 1 = .ok (.iload_n 1, 1) by decide +kernel) rfl (lv_at hl0 1 rfl) ?_
  refine lv_iconst (v := Int32.ofInt 1) hx hb (show decode prog_1_method_41_code 2 = .ok (.iconst 1, 1) by decide +kernel) rfl ?_
  refine gx_call X (mid := iX6_refusalOf) (M := mX6_refusalOf) (as := [aR 45, aI x, aI 1]) (rest := []) (K := fun r σ1 => r = refK σ x ∧ σ1 = σ) rfl (Or.inl (gd_t (mt2 48 rfl) rfl)) (Or.inl rfl) (x_refOf1 (k := 18) hI ⟨rfl, rfl⟩) (RL_cons True.intro (RL_cons rx (RL_cons (show R32 1 from ⟨by decide, by decide⟩) RL_nil))) rσ (Or.inl ⟨rfl, (show decode prog_1_method_41_code 3 = .ok (.invokevirtual 279, 3) by decide +kernel), 45, _, rfl, rfl, rfl⟩) hP hS hl0.1 (Nat.le_of_ble_eq_true rfl) ⟨by decide, by decide⟩ ⟨by decide, by decide⟩ (fun r σ1 H locs hK1 _ hP hS => ?_)
  obtain ⟨hr1, hs1⟩ := hK1
  rw [hs1] at hP

  refine lv_istore_n (lv' := [(2, .int r), (0, .ref (α 45)), (1, .int (Int32.ofInt x))]) hx hb (show decode prog_1_method_41_code 6 = .ok (.istore_n 2, 1) by decide +kernel) rfl hl0 (by decide) rfl (fun ls hl0 => ?_)
  refine lv_iload_n hx hb (show decode prog_1_method_41_code 7 = .ok (.iload_n 2, 1) by decide +kernel) rfl (lv_at hl0 0 rfl) ?_
  refine lv_if_eq (tgt := 13) hx hb (show decode prog_1_method_41_code 8 = .ok (.ifCond .eq 5, 3) by decide +kernel) (by decide) (fun h0 => ?_) (fun h0 => ?_)
  · have hz : refK σ x = 0 := by rw [← hr1, h0]; rfl
    obtain ⟨d, hxd, hd, h92⟩ := refK_0 hz
    subst hxd
    obtain ⟨w, o, s9, ew, eo, es, hwos, hk9, hm⟩ := SH_mv (hI.2.2.2 d hd) hd h92
    have hmo : σ (61 + 3 * d + 1) 0 = σ 96 d ∧ σ (61 + 3 * d + 1) 1 = w := ⟨hm.2.1, hm.2.2.1⟩
    have hT0 : tossF σ (d : Nat) = (if σ 96 d = 6 ∨ σ 97 d = 0 then -15 else if σ 96 d = 7 then wr (200 + lett (σ 96 d) (σ 97 d) (σ 98 d) (σ 99 d)) else if σ 96 d = 5 then wr (100 + σ 97 d) else σ 97 d) := by
      unfold tossF
      rw [if_pos hz, Int.toNat_natCast]
    have w6 := (fld_at (cI := cI) (cQ := cQ) (α := α) (σ := σ) (k := 6) (a := 45) vwf_6 (by decide) rfl)
    have w2 := (fld_at (cI := cI) (cQ := cQ) (α := α) (σ := σ) (k := 1) vwf_2 (by decide) (shf_d hd).1)
    have w0 := (fld_at (cI := cI) (cQ := cQ) (α := α) (σ := σ) (k := 1) vwf_0 (by decide) (shf_d hd).2.1)
    refine lv_aload_n hx hb (show decode prog_1_method_41_code 13 = .ok (.aload_n 0, 1) by decide +kernel) rfl (lv_at hl0 1 rfl) ?_
    refine va_get (D := D) (ci := 6) (k := 6) (v := .ref (α 60)) hx hb hts vwf_6.2.2.2.1 hown hK hP 45 w6.1 rfl (by decide) (hts _ (gd_t (mt2 21 rfl) rfl)) (fun _ h9 => h9) w6.2 (show decode prog_1_method_41_code 14 = .ok (.getfield 45, 3) by decide +kernel) ?_
    refine lv_iload_n hx hb (show decode prog_1_method_41_code 17 = .ok (.iload_n 1, 1) by decide +kernel) rfl (lv_at hl0 2 rfl) ?_
    refine va_aldq (D := D) hx hb hK hP 60 1 (WS_get (by decide)) rfl (i32_in rx (by omega) (by omega)) (show decode prog_1_method_41_code 18 = .ok (.aaload, 1) by decide +kernel) ?_
    rw [i32_clamp rx, Int.toNat_natCast]
    refine va_getN (D := D) (ci := 2) (k := 1) (v := .ref (α (61 + 3 * d + 1))) hx hb hts vwf_2.2.2.2.1 hown hK hP (61 + 3 * d) w2.1 rfl (by decide) (va_Nw.use rfl (hN _ (mtN (mt1 234 rfl) rfl))) (fun _ h9 => h9) w2.2 (show decode prog_1_method_41_code 19 = .ok (.getfield 151, 3) by decide +kernel) ?_
    refine lv_astore_n (lv' := [(3, .ref (α (61 + 3 * d + 1))), (2, .int r), (0, .ref (α 45)), (1, .int (Int32.ofInt (d : Nat)))]) hx hb (show decode prog_1_method_41_code 22 = .ok (.astore_n 3, 1) by decide +kernel) rfl hl0 (by decide) rfl (fun ls hl0 => ?_)
    refine lv_aload_n hx hb (show decode prog_1_method_41_code 23 = .ok (.aload_n 3, 1) by decide +kernel) rfl (lv_at hl0 0 rfl) ?_
    have hF := gx_free X hS (σ := σ)
    have hGF : GoodIn lw_good wsF := fun w hw => by
      rcases List.mem_cons.mp hw with rfl | hw
      · exact lw_goodIn _ (gd_t (mt4 187 rfl) rfl)
      · exact lw_goodIn w hw
    have hrec : ∃ cell : Cell, H[α (61 + 3 * d + 1)]? = some cell ∧ cell.vm.isStatics = false ∧ s.vm.findClass RX0 = some cell.cls := va_recv hK hP (ci := 0) rfl w0.1
    have hpre : PreV s H RX0 (α (61 + 3 * d + 1)) (va_Pc [.ref (α (61 + 3 * d + 1))] (fun U => (U.heap.size = H.size ∧ Wd D cI cQ α σ U) ∧ XE (va_A (WS cI cQ α σ) H.size) U)) [] := ⟨fun a U g mk q => by
      obtain ⟨q0, ⟨q1, qP, qK, qN⟩, qX⟩ := q
      exact ⟨q0, ⟨q1, qP, va_K.moved (u := U) (U := U.calling g mk a) (Vm.Alike.refl U.vm) qK, NWs.same (u := U) (U := U.calling g mk a) rfl qN⟩, qX.call⟩, hrec, fun U hU hW => ⟨rfl, ⟨by rw [hU], by rw [hU]; exact hP, va_K.moved hW.alike hK, NWs.warm hW hN⟩, hX.warm hW hU hS (fun q h => hF q h)⟩⟩
    refine vx_callv (vx_runVN (As := []) (rest := []) X.1 (c_fail l hl D cI cQ α σ (61 + 3 * d + 1) H.size (shf_d hd).2.1 rσ hD0) ⟨va_cnB 0 hts hGF rfl rfl rfl (hN _ (mtN (mt4 184 rfl) rfl)) (hts _ (gd_t (mt1 6 rfl) rfl)) ⟨by decide, by decide, pmd_v⟩ ⟨by decide, by decide⟩, hts _ (gd_t (mt4 186 rfl) rfl), hts _ (gd_p (n := 4) (List.mem_of_getElem? (i := 91) rfl))⟩ hpre rfl rfl hl0.1 rfl (lv_room (Nat.le_of_ble_eq_true rfl)) (show decode prog_1_method_41_code 24 = .ok (.invokevirtual 320, 3) by decide +kernel) ⟨by decide, by decide⟩) hS (fun q _ h => hF q h) hF (fun q _ h => hF q h) (fun E ce q9 u t H1 locs1 ht hal hpx hBX hz1 hk1 hS1 hce hcv hcl => ?_) (fun u t H1 locs1 ht hal hpost hB hz1 hk1 hS1 => ?_)
    · obtain ⟨hE, hP1⟩ := hBX
      rw [ht] at hP1
      rw [hmo.1, hmo.2, ← ew] at hpx
      rw [hmo.1] at hE
      have e1 : (Int32.ofInt (σ (61 + 3 * d + 1) 1)).toInt = σ 97 d := by rw [i32_of (rσ _ _), hmo.2, ew]
      have hct : ∀ (pre : List ExceptionTableEntry) (x9 : ExceptionTableEntry) (suf : List ExceptionTableEntry), tableOf hhT = pre ++ x9 :: suf → c.exceptionTable.toList = pre ++ x9 :: suf := fun _ _ _ h => htab.trans h
      by_cases k7 : σ 96 d = 7
      · have hEE : E = xnU := by rw [hE]; unfold failE; rw [if_pos k7]
        subst hEE
        refine vx_catch (name := xnU) hown [] ⟨23, 27, 30, 323⟩ [⟨23, 27, 41, 288⟩, ⟨23, 27, 51, 295⟩] (hct _ _ _ rfl) (fun z hz => by cases hz) (by decide) (by decide) (hts _ (gd_t (mt4 181 rfl) rfl)) (va_Nw.use rfl (hX.2.2.2.1 _ (by decide))) hce hcv hcl ?_
        refine lv_astore (lv' := [(4, .ref q9), (3, .ref (α (61 + 3 * d + 1))), (2, .int r), (0, .ref (α 45)), (1, .int (Int32.ofInt (d : Nat)))]) hx hb (show decode prog_1_method_41_code 30 = .ok (.astore 4, 2) by decide +kernel) hl0 (by decide) rfl (fun ls hl0 => ?_)
        refine lv_sipush (v := 200) hx hb (show decode prog_1_method_41_code 32 = .ok (.sipush 200, 3) by decide +kernel) (by decide) ?_
        refine lv_aload_n hx hb (show decode prog_1_method_41_code 35 = .ok (.aload_n 3, 1) by decide +kernel) rfl (lv_at hl0 1 rfl) ?_
        refine gx_call X (mid := iX0_letterCount) (M := mX0_letterCount) (as := [aR (61 + 3 * d + 1)]) (rest := [.int 200]) (K := fun r2 σ1 => r2 = lett (σ 96 d) w o s9 ∧ σ1 = σ) rfl (Or.inr (mtN (mt4 164 rfl) rfl)) (Or.inl rfl) (s_letterCount (d := 17) hm (by omega) ⟨rfl, rfl⟩) (RL_cons True.intro RL_nil) rσ (Or.inl ⟨rfl, (show decode prog_1_method_41_code 36 = .ok (.invokevirtual 317, 3) by decide +kernel), _, _, rfl, (shf_d hd).2.1, rfl⟩) hP1 hS1 hl0.1 (Nat.le_of_ble_eq_true rfl) ⟨by decide, by decide⟩ ⟨by decide, by decide⟩ (fun r2 σ1 H1 locs1 hK1 _ hP1 hS1 => ?_)
        obtain ⟨hr2, hs1⟩ := hK1
        rw [hs1] at hP1
        refine lv_iadd hx hb (show decode prog_1_method_41_code 39 = .ok (.iadd, 1) by decide +kernel) ?_
        refine vx_ret ?_
        exact W.iret (v := 200 + r2) hx hb hr (fun t9 ht9 hW9 => ⟨⟨200 + r2, (), rfl, (by dsimp only; rw [hT0, if_neg hpx, if_pos k7, i32_addT, hr2, ew, eo, es]; rfl), by show va_P D vwCl (WS cI cQ α σ) t9.heap; rw [ht9]; exact hP1⟩, hS1.F ht9⟩) hS1.2.2 (show decode prog_1_method_41_code 40 = .ok (.ireturn, 1) by decide +kernel)
      · by_cases k5 : σ 96 d = 5
        · have hEE : E = xnA := by rw [hE]; unfold failE; rw [if_neg k7, if_pos k5]
          subst hEE
          refine vx_catch (name := xnA) hown [⟨23, 27, 30, 323⟩] ⟨23, 27, 41, 288⟩ [⟨23, 27, 51, 295⟩] (hct _ _ _ rfl) (fun z hz => by
            rw [List.mem_singleton.mp hz]
            exact Or.inr ⟨by decide, xnU, hts _ (gd_t (mt4 181 rfl) rfl), hX.2.2.2.2 (xnA, xnU) (by decide)⟩) (by decide) (by decide) (hts _ (gd_t (mt4 182 rfl) rfl)) (va_Nw.use rfl (hX.2.2.2.1 _ (by decide))) hce hcv hcl ?_
          refine lv_astore (lv' := [(4, .ref q9), (3, .ref (α (61 + 3 * d + 1))), (2, .int r), (0, .ref (α 45)), (1, .int (Int32.ofInt (d : Nat)))]) hx hb (show decode prog_1_method_41_code 41 = .ok (.astore 4, 2) by decide +kernel) hl0 (by decide) rfl (fun ls hl0 => ?_)
          refine lv_bipush (v := 100) hx hb (show decode prog_1_method_41_code 43 = .ok (.bipush 100, 2) by decide +kernel) (by decide) ?_
          refine lv_aload_n hx hb (show decode prog_1_method_41_code 45 = .ok (.aload_n 3, 1) by decide +kernel) rfl (lv_at hl0 1 rfl) ?_
          refine va_getN (D := D) (ci := 0) (k := 1) (v := .int (Int32.ofInt (σ (61 + 3 * d + 1) 1))) hx hb hts vwf_0.2.2.2.1 hown hK hP1 (61 + 3 * d + 1) w0.1 rfl (by decide) (va_Nw.use rfl (hN _ (mtN (mt1 183 rfl) rfl))) (fun _ h9 => h9) w0.2 (show decode prog_1_method_41_code 46 = .ok (.getfield 325, 3) by decide +kernel) ?_
          refine lv_iadd hx hb (show decode prog_1_method_41_code 49 = .ok (.iadd, 1) by decide +kernel) ?_
          refine vx_ret ?_
          exact W.iret (v := 100 + Int32.ofInt (σ (61 + 3 * d + 1) 1)) hx hb hr (fun t9 ht9 hW9 => ⟨⟨100 + Int32.ofInt (σ (61 + 3 * d + 1) 1), (), rfl, (by dsimp only; rw [hT0, if_neg hpx, if_neg k7, if_pos k5, i32_addT, e1]; rfl), by show va_P D vwCl (WS cI cQ α σ) t9.heap; rw [ht9]; exact hP1⟩, hS1.F ht9⟩) hS1.2.2 (show decode prog_1_method_41_code 50 = .ok (.ireturn, 1) by decide +kernel)
        · have hEE : E = xnS := by rw [hE]; unfold failE; rw [if_neg k7, if_neg k5]
          subst hEE
          refine vx_catch (name := xnS) hown [⟨23, 27, 30, 323⟩, ⟨23, 27, 41, 288⟩] ⟨23, 27, 51, 295⟩ [] (hct _ _ _ rfl) (fun z hz => by
            rcases List.mem_cons.mp hz with rfl | hz
            · exact Or.inr ⟨by decide, xnU, hts _ (gd_t (mt4 181 rfl) rfl), hX.2.2.2.2 (xnS, xnU) (by decide)⟩
            · rw [List.mem_singleton.mp hz]
              exact Or.inr ⟨by decide, xnA, hts _ (gd_t (mt4 182 rfl) rfl), hX.2.2.2.2 (xnS, xnA) (by decide)⟩) (by decide) (by decide) (hts _ (gd_t (mt4 183 rfl) rfl)) (va_Nw.use rfl (hX.2.2.2.1 _ (by decide))) hce hcv hcl ?_
          refine lv_astore (lv' := [(4, .ref q9), (3, .ref (α (61 + 3 * d + 1))), (2, .int r), (0, .ref (α 45)), (1, .int (Int32.ofInt (d : Nat)))]) hx hb (show decode prog_1_method_41_code 51 = .ok (.astore 4, 2) by decide +kernel) hl0 (by decide) rfl (fun ls hl0 => ?_)
          refine lv_aload_n hx hb (show decode prog_1_method_41_code 53 = .ok (.aload_n 3, 1) by decide +kernel) rfl (lv_at hl0 1 rfl) ?_
          refine va_getN (D := D) (ci := 0) (k := 1) (v := .int (Int32.ofInt (σ (61 + 3 * d + 1) 1))) hx hb hts vwf_0.2.2.2.1 hown hK hP1 (61 + 3 * d + 1) w0.1 rfl (by decide) (va_Nw.use rfl (hN _ (mtN (mt1 183 rfl) rfl))) (fun _ h9 => h9) w0.2 (show decode prog_1_method_41_code 54 = .ok (.getfield 325, 3) by decide +kernel) ?_
          refine vx_ret ?_
          exact W.iret (v := Int32.ofInt (σ (61 + 3 * d + 1) 1)) hx hb hr (fun t9 ht9 hW9 => ⟨⟨Int32.ofInt (σ (61 + 3 * d + 1) 1), (), rfl, (by dsimp only; rw [hT0, if_neg hpx, if_neg k7, if_neg k5, e1]), by show va_P D vwCl (WS cI cQ α σ) t9.heap; rw [ht9]; exact hP1⟩, hS1.F ht9⟩) hS1.2.2 (show decode prog_1_method_41_code 57 = .ok (.ireturn, 1) by decide +kernel)
    · have hP1 : va_P D vwCl (WS cI cQ α σ) H1 := by rw [← ht]; exact hB
      rw [hmo.1, hmo.2, ← ew] at hpost
      refine lv_goto (tgt := 58) hx hb (show decode prog_1_method_41_code 27 = .ok (.goto 31, 3) by decide +kernel) (by decide) ?_
      refine lv_bipush (v := -15) hx hb (show decode prog_1_method_41_code 58 = .ok (.bipush (-15), 2) by decide +kernel) (by decide) ?_
      refine vx_ret ?_
      exact W.iret (v := -15) hx hb hr (fun t9 ht9 hW9 => ⟨⟨-15, (), rfl, (by dsimp only; rw [hT0, if_pos hpost]; rfl), by show va_P D vwCl (WS cI cQ α σ) t9.heap; rw [ht9]; exact hP1⟩, hS1.F ht9⟩) hS1.2.2 (show decode prog_1_method_41_code 60 = .ok (.ireturn, 1) by decide +kernel)
  · refine lv_iload_n hx hb (show decode prog_1_method_41_code 11 = .ok (.iload_n 2, 1) by decide +kernel) rfl (lv_at hl0 0 rfl) ?_
    refine W.widen (k := 1) (n := 6) (by decide) (by decide) ?_
    have hP1 := hP
    have hS1 := hS
    refine vx_ret ?_
    exact W.iret (v := r) hx hb hr (fun t9 ht9 hW9 => ⟨⟨r, (), rfl, (by dsimp only; unfold tossF; rw [if_neg (fun q => h0 (Int32.toInt_inj.mp (by rw [hr1, q]; rfl))), hr1]), by show va_P D vwCl (WS cI cQ α σ) t9.heap; rw [ht9]; exact hP1⟩, hS1.F ht9⟩) hS1.2.2 (show decode prog_1_method_41_code 12 = .ok (.ireturn, 1) by decide +kernel)
