/-! the law's own element (written by genexc.py) -/
def hhL : List (Nat × Nat × Nat × Nat) := [(0, 9, 12, 13), (0, 9, 16, 15)]
def yLE : MethodName := ⟨R_law, "element", "(LOneEach;II[J)I"⟩
def wsL : List Cond := Cond.codeWith yLE method_3_code 5 (some .int) hhL :: lw_good
def rkL : Room := { frames := 60, cells := 1, slots := 6, locals := 2000 }
def lAq (cI cQ : ClassId) (α : Nat → Nat) (σ : Sg) (sz qo : Nat) : Nat → Prop := fun q => va_A (WS cI cQ α σ) sz q ∨ q = qo
theorem elK_cases (σ : Sg) (x y : Int) : elK σ x y = 0 ∨ elK σ x y = 1 ∨ elK σ x y = 2 := by
  unfold elK
  split
  · split
    · exact Or.inl rfl
    · exact Or.inr (Or.inr rfl)
  · exact Or.inr (Or.inl rfl)
set_option maxHeartbeats 4000000 in
set_option maxRecDepth 100000 in
theorem c_lel (l : Launch) (hl : l.stackTraces = false) (D : va_G) (cI cQ cJ : ClassId) (α : Nat → Nat) (qo : Nat) (o : Nat → Int64) (σ T P : Sg) (sz : Nat) (x y : Int) (hI : Inv σ T P) (rσ : RS σ) (rx : R32 x) (ry : R32 y) (hD0 : va_D (fun _ => True) (WS cI cQ α σ)) (hqo : ∀ k, k < 108 → α k ≠ qo) :
    vx_Met l yLE wsL rkL (va_Pc [.ref (α 45), .int (Int32.ofInt x), .int (Int32.ofInt y), .ref qo] (fun U => (U.heap.size = sz ∧ Wd D cI cQ α σ U) ∧ XE (lAq cI cQ α σ sz qo) U ∧ va_P D vwCl (oW qo cJ o) U.heap ∧ va_K D vwCl [(cJ, .long)] U)) (va_Qi (fun (r : Int32) (o1 : Nat → Int64) => r.toInt = elK σ x y ∧ (elK σ x y = 0 → (o1 0).toInt = elV σ x y)) (fun o1 t => va_P D vwCl (WS cI cQ α σ) t.heap ∧ va_P D vwCl (oW qo cJ o1) t.heap) (lAq cI cQ α σ sz qo)) (vx_X (fun _ : Unit => False) (fun _ _ _ => True) (lAq cI cQ α σ sz qo)) 1 6 (lAq cI cQ α σ sz qo) := by
  refine vx_ofWH (cc := method_3_code) (maxL := 5) (ret := some .int) (hh := hhL) (by decide) rfl ?_
  intro p e s m args below meth c s₁ B hml hv
  obtain ⟨rfl, ⟨hsz, hP, hK, hN⟩, hX, hO, hKJ⟩ := hv
  subst hsz
  have hx := B.exec
  have hb := B.bytes
  have hr := B.returns
  have hlocks := B.notSynchronized
  have hts0 := atoms_spec (ws := wsL) B.pre
  have htab : c.exceptionTable.toList = tableOf hhL := vx_table (x := yLE) B (hts0 _ List.mem_cons_self)
  have hts : ∀ w ∈ lw_good, w.before #[.ref (α 45), .int (Int32.ofInt x), .int (Int32.ofInt y), .ref qo] s = true := fun w hw => hts0 w (List.mem_cons_of_mem _ hw)
  have hown : s.vm.findClass R_law = some m.cls := findClass_of_methodNamed B.named
  have hDA : va_D (lAq cI cQ α σ s.heap.size qo) (WS cI cQ α σ) := (hD0.self (sz := s.heap.size)).weaken (fun _ _ _ h => Or.inl h)
  have hAq : lAq cI cQ α σ s.heap.size qo qo := Or.inr rfl
  have hA : ∀ q : Nat, s.heap.size ≤ q → lAq cI cQ α σ s.heap.size qo q := fun q h => Or.inl (Or.inr h)
  generalize lAq cI cQ α σ s.heap.size qo = A at hDA hAq hA hX ⊢
  have hS : va_S A s.heap s.heap [] := va_S.rf
  have X : Gx p s m #[.ref (α 45), .int (Int32.ofInt x), .int (Int32.ofInt y), .ref qo] meth c method_3_code 5 R_law D cI cQ α A := ⟨⟨hx, hb, hml, hown, hts⟩, hK, hN, hA, va_D_ws hDA⟩
  have hle := lv_entry ([.ref (α 45), .int (Int32.ofInt x), .int (Int32.ofInt y), .ref qo]) (n := 5) (Nat.le_of_ble_eq_true rfl)
  rw [lg_entry_eq]
  generalize (lg_sl ([.ref (α 45), .int (Int32.ofInt x), .int (Int32.ofInt y), .ref qo]) ++ List.replicate (5 - (lg_sl ([.ref (α 45), .int (Int32.ofInt x), .int (Int32.ofInt y), .ref qo])).length) Slot.unset).toArray = ls at hle ⊢
  have hl0 : lv_has ls 5 [(0, .ref (α 45)), (1, .int (Int32.ofInt x)), (2, .int (Int32.ofInt y)), (3, .ref qo)] := hle
  refine lv_aload_n hx hb (show decode method_3_code 0 = .ok (.aload_n 3, 1) by decide +kernel) rfl (lv_at hl0 3 rfl) ?_
  refine lv_iconst (v := 0) hx hb (show decode method_3_code 1 = .ok (.iconst 0, 1) by decide +kernel) (by decide) ?_
  refine lv_aload_n hx hb (show decode method_3_code 2 = .ok (.aload_n 0, 1) by decide +kernel) rfl (lv_at hl0 0 rfl) ?_
  refine lv_iload_n hx hb (show decode method_3_code 3 = .ok (.iload_n 1, 1) by decide +kernel) rfl (lv_at hl0 1 rfl) ?_
  refine lv_iload_n hx hb (show decode method_3_code 4 = .ok (.iload_n 2, 1) by decide +kernel) rfl (lv_at hl0 2 rfl) ?_
  have hF := gx_free X hS (σ := σ)
  have hGE : GoodIn lw_good wsE := fun w hw => by
    rcases List.mem_cons.mp hw with rfl | hw
    · exact lw_goodIn _ (gd_t (mt5 56 rfl) rfl)
    · exact lw_goodIn w hw
  have hrec : ∃ cell : Cell, s.heap[α 45]? = some cell ∧ cell.vm.isStatics = false ∧ s.vm.findClass RX6 = some cell.cls := va_recv hK hP (ci := 6) rfl (fld_at (cI := cI) (cQ := cQ) (α := α) (σ := σ) (k := 6) (a := 45) vwf_6 (by decide) rfl).1
  have hpre : PreV s s.heap RX6 (α 45) (va_Pc [.ref (α 45), .int (Int32.ofInt x), .int (Int32.ofInt y)] (fun U => (U.heap.size = s.heap.size ∧ Wd D cI cQ α σ U) ∧ XE (va_A (WS cI cQ α σ) s.heap.size) U)) [.int (Int32.ofInt x), .int (Int32.ofInt y)] := ⟨fun a U g mk q => by
    obtain ⟨q0, ⟨q1, qP, qK, qN⟩, qX⟩ := q
    exact ⟨q0, ⟨q1, qP, va_K.moved (u := U) (U := U.calling g mk a) (Vm.Alike.refl U.vm) qK, NWs.same (u := U) (U := U.calling g mk a) rfl qN⟩, qX.call⟩, hrec, fun U hU hW => ⟨rfl, ⟨by rw [hU], by rw [hU]; exact hP, va_K.moved hW.alike hK, NWs.warm hW hN⟩, hX.warm hW hU hS (fun q h => hF q h)⟩⟩
  have hqn : qo < s.heap.size → ¬ va_A (WS cI cQ α σ) s.heap.size qo := fun hz h => by
    rcases h with ⟨k, e9, hk⟩ | h
    · have h1 : k < 108 := by have := (List.getElem?_eq_some_iff.mp hk).1; rwa [WS_len] at this
      rw [WS_get h1] at hk
      exact hqo k h1 (congrArg (·.1) (Option.some.inj hk))
    · omega
  have keepO : ∀ H1 : Heap, (∀ q : Nat, q < s.heap.size → ¬ va_A (WS cI cQ α σ) s.heap.size q → H1[q]? = s.heap[q]?) → va_P D vwCl (oW qo cJ o) H1 := fun H1 hk1 => hO.kept (fun k x hx => by
    have h1 : k < 1 := (List.getElem?_eq_some_iff.mp hx).1
    have h2 := (hO k x hx).lt
    rw [show k = 0 by omega] at hx
    cases hx
    exact hk1 _ h2 (hqn h2))
  refine vx_calll (vx_runV (As := [.int (Int32.ofInt x), .int (Int32.ofInt y)]) (rest := [.int 0, .ref qo]) X.1 (c_element l hl D cI cQ α σ T P s.heap.size x y hI rσ rx ry hD0) (cwV 2 hts (fun w hw => by
      rcases List.mem_append.mp hw with hw | hw
      · rcases List.mem_cons.mp hw with rfl | hw
        · exact lw_goodIn _ (gd_t (mt5 53 rfl) rfl)
        · rcases List.mem_cons.mp hw with rfl | hw
          · exact lw_goodIn _ (gd_t (mt5 54 rfl) rfl)
          · rcases List.mem_cons.mp hw with rfl | hw
            · exact lw_goodIn _ (gd_t (mt5 55 rfl) rfl)
            · rcases List.mem_cons.mp hw with rfl | hw
              · exact lw_goodIn _ (gd_t (mt1 1 rfl) rfl)
              · cases hw
      · exact hGE w hw) rfl rfl rfl ⟨rfl, by decide, by decide, by decide +kernel⟩ ⟨by decide, by decide⟩) hpre rfl rfl hl0.1 rfl (lv_room (Nat.le_of_ble_eq_true rfl)) (show decode method_3_code 5 = .ok (.invokevirtual 7, 3) by decide +kernel) ⟨by decide, by decide⟩) hS (fun q _ h => hF q h) hF (fun q _ h => hF q h) (fun E ce q9 u t H1 locs1 ht hal hpx hBX hz1 hk1 hS1 hce hcv hcl => ?_) (fun r u t H1 locs1 ht hal hpost hB hz1 hk1 hS1 => ?_)
  · obtain ⟨hE, hP1⟩ := hBX
    rw [ht] at hP1
    have hO1 := keepO H1 hk1
    have hct : ∀ (pre : List ExceptionTableEntry) (x9 : ExceptionTableEntry) (suf : List ExceptionTableEntry), tableOf hhL = pre ++ x9 :: suf → c.exceptionTable.toList = pre ++ x9 :: suf := fun _ _ _ h => htab.trans h
    by_cases k1 : elK σ x y = 1
    · have hEE : E = xnA := by rw [hE, if_pos k1]
      subst hEE
      refine vx_catch (name := xnA) hown [] ⟨0, 9, 12, 13⟩ [⟨0, 9, 16, 15⟩] (hct _ _ _ rfl) (fun z hz => by cases hz) (by decide) (by decide) (hts _ (gd_t (mt5 51 rfl) rfl)) (va_Nw.use rfl (hX.2.2.2.1 _ (by decide))) hce hcv hcl ?_
      refine lv_astore (lv' := [(4, .ref q9), (0, .ref (α 45)), (1, .int (Int32.ofInt x)), (2, .int (Int32.ofInt y)), (3, .ref qo)]) hx hb (show decode method_3_code 12 = .ok (.astore 4, 2) by decide +kernel) hl0 (by decide) rfl (fun ls hl0 => ?_)
      refine lv_iconst (v := 1) hx hb (show decode method_3_code 14 = .ok (.iconst 1, 1) by decide +kernel) (by decide) ?_
      refine vx_ret ?_
      exact W.iret (v := 1) hx hb hr (fun t9 ht9 hW9 => ⟨⟨1, o, rfl, (by dsimp only; rw [k1]; exact ⟨rfl, fun z => absurd z (by decide)⟩), by show va_P D vwCl (WS cI cQ α σ) t9.heap ∧ va_P D vwCl (oW qo cJ o) t9.heap; rw [ht9]; exact ⟨hP1, hO1⟩⟩, hS1.F ht9⟩) hS1.2.2 (show decode method_3_code 15 = .ok (.ireturn, 1) by decide +kernel)
    · have k2 : elK σ x y = 2 := by have := elK_cases σ x y; omega
      have hEE : E = xnS := by rw [hE, if_neg k1]
      subst hEE
      refine vx_catch (name := xnS) hown [⟨0, 9, 12, 13⟩] ⟨0, 9, 16, 15⟩ [] (hct _ _ _ rfl) (fun z hz => by
        rw [List.mem_singleton.mp hz]
        exact Or.inr ⟨by decide, xnA, hts _ (gd_t (mt5 51 rfl) rfl), hX.2.2.2.2 (xnS, xnA) (by decide)⟩) (by decide) (by decide) (hts _ (gd_t (mt5 52 rfl) rfl)) (va_Nw.use rfl (hX.2.2.2.1 _ (by decide))) hce hcv hcl ?_
      refine lv_astore (lv' := [(4, .ref q9), (0, .ref (α 45)), (1, .int (Int32.ofInt x)), (2, .int (Int32.ofInt y)), (3, .ref qo)]) hx hb (show decode method_3_code 16 = .ok (.astore 4, 2) by decide +kernel) hl0 (by decide) rfl (fun ls hl0 => ?_)
      refine lv_iconst (v := 2) hx hb (show decode method_3_code 18 = .ok (.iconst 2, 1) by decide +kernel) (by decide) ?_
      refine vx_ret ?_
      exact W.iret (v := 2) hx hb hr (fun t9 ht9 hW9 => ⟨⟨2, o, rfl, (by dsimp only; rw [k2]; exact ⟨rfl, fun z => absurd z (by decide)⟩), by show va_P D vwCl (WS cI cQ α σ) t9.heap ∧ va_P D vwCl (oW qo cJ o) t9.heap; rw [ht9]; exact ⟨hP1, hO1⟩⟩, hS1.F ht9⟩) hS1.2.2 (show decode method_3_code 19 = .ok (.ireturn, 1) by decide +kernel)
  · have hP1 : va_P D vwCl (WS cI cQ α σ) H1 := by rw [← ht]; exact hB
    have hO1 := keepO H1 hk1
    have hP2 : va_P D vwCl (WS cI cQ α σ ++ oW qo cJ o) H1 := hP1.app hO1
    have hD2 : va_D A (WS cI cQ α σ ++ oW qo cJ o) := va_D.app (va_D_ws hDA) (va_D_one hAq) (fun i j p9 q9 hi hj => by
      have h1 : i < 108 := by have := (List.getElem?_eq_some_iff.mp hi).1; rwa [WS_len] at this
      rw [WS_get h1] at hi
      have h2 : j < 1 := (List.getElem?_eq_some_iff.mp hj).1
      rw [show j = 0 by omega] at hj
      cases hi
      cases hj
      exact hqo i h1)
    refine va_last hx hb hKJ hP2 hD2 hS1 108 0 (by rw [List.getElem?_append_right (by rw [WS_len]; exact Nat.le_refl _), WS_len]; rfl) rfl (by rw [vp_in_iff]; decide) (show decode method_3_code 8 = .ok (.lastore, 1) by decide +kernel) (fun H1 locs1 hP2 hD2 hS1 => ?_)
    rw [List.set_append_right _ _ (by rw [WS_len]; exact Nat.le_refl _), WS_len] at hP2
    have hP1 : va_P D vwCl (WS cI cQ α σ) H1 := fun k x9 hx9 => hP2 k x9 (by rw [List.getElem?_append_left (List.getElem?_eq_some_iff.mp hx9).1]; exact hx9)
    have hO1 : va_P D vwCl (oW qo cJ (vp_updL o (0 : Int32).toNatClampNeg r)) H1 := fun k x9 hx9 => hP2 (108 + k) x9 (by rw [List.getElem?_append_right (by rw [WS_len]; omega), WS_len, show 108 + k - 108 = k by omega]; exact hx9)
    refine lv_goto (tgt := 20) hx hb (show decode method_3_code 9 = .ok (.goto 11, 3) by decide +kernel) (by decide) ?_
    refine lv_iconst (v := 0) hx hb (show decode method_3_code 20 = .ok (.iconst 0, 1) by decide +kernel) (by decide) ?_
    refine vx_ret ?_
    exact W.iret (v := 0) hx hb hr (fun t9 ht9 hW9 => ⟨⟨0, (vp_updL o (0 : Int32).toNatClampNeg r), rfl, (by dsimp only; rw [hpost.1]; exact ⟨rfl, fun _ => hpost.2⟩), by show va_P D vwCl (WS cI cQ α σ) t9.heap ∧ va_P D vwCl (oW qo cJ (vp_updL o (0 : Int32).toNatClampNeg r)) t9.heap; rw [ht9]; exact ⟨hP1, hO1⟩⟩, hS1.F ht9⟩) hS1.2.2 (show decode method_3_code 21 = .ok (.ireturn, 1) by decide +kernel)
