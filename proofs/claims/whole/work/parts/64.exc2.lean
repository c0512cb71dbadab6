/-! fail (written by genexc.py) -/
/-- the class that 'fail' throws, by the move's kind -/
def failE (k : Int) : String := if k = 7 then xnU else if k = 5 then xnA else xnS
def wsF : List Cond := Cond.code ⟨RX0, "fail", "()V"⟩ prog_2_method_13_code 1 none :: lw_good
def rkF : Room := { frames := 8, cells := 1, slots := 6, locals := 200 }
set_option maxHeartbeats 4000000 in
set_option maxRecDepth 100000 in
theorem c_fail (l : Launch) (hl : l.stackTraces = false) (D : va_G) (cI cQ : ClassId) (α : Nat → Nat) (σ : Sg) (a sz : Nat) (ha : CLS a = 0) (rσ : RS σ) (hD0 : va_D (fun _ => True) (WS cI cQ α σ)) :
    vx_Met l ⟨RX0, "fail", "()V"⟩ wsF rkF (va_Pc [.ref (α a)] (fun U => (U.heap.size = sz ∧ Wd D cI cQ α σ U) ∧ XE (va_A (WS cI cQ α σ) sz) U)) (va_Qv (fun _ : Unit => σ a 0 = 6 ∨ σ a 1 = 0) (fun _ t => va_P D vwCl (WS cI cQ α σ) t.heap) (va_A (WS cI cQ α σ) sz)) (vx_X (fun _ : Unit => ¬ (σ a 0 = 6 ∨ σ a 1 = 0)) (fun E _ t => E = failE (σ a 0) ∧ va_P D vwCl (WS cI cQ α σ) t.heap) (va_A (WS cI cQ α σ) sz)) 1 6 (va_A (WS cI cQ α σ) sz) := by
  refine vx_ofW (cc := prog_2_method_13_code) (maxL := 1) (ret := none) (by decide) rfl ?_
  intro p e s m args below meth c s₁ B hml hno hv
  obtain ⟨rfl, ⟨hsz, hP, hK, hN⟩, hX⟩ := hv
  subst hsz
  have hx := B.exec
  have hb := B.bytes
  have hr := B.returns
  have hlocks := B.notSynchronized
  have hts0 := atoms_spec (ws := wsF) B.pre
  have hts : ∀ w ∈ lw_good, w.before #[.ref (α a)] s = true := fun w hw => hts0 w (List.mem_cons_of_mem _ hw)
  have hown : s.vm.findClass RX0 = some m.cls := findClass_of_methodNamed B.named
  have hD := hD0.self (sz := s.heap.size)
  generalize hAe : va_A (WS cI cQ α σ) s.heap.size = A at hD hX ⊢
  have hS : va_S A s.heap s.heap [] := va_S.rf
  have hle := lv_entry ([.ref (α a)]) (n := 1) (Nat.le_of_ble_eq_true rfl)
  rw [lg_entry_eq]
  generalize (lg_sl ([.ref (α a)]) ++ List.replicate (1 - (lg_sl ([.ref (α a)])).length) Slot.unset).toArray = ls at hle ⊢
  have hl0 : lv_has ls 1 [(0, .ref (α a))] := hle
  have w1 := (fld_at (cI := cI) (cQ := cQ) (α := α) (σ := σ) (k := 0) vwf_0 (by decide) ha).1
  have g0 := (fld_at (cI := cI) (cQ := cQ) (α := α) (σ := σ) (k := 0) vwf_0 (by decide) ha).2
  have g1 := (fld_at (cI := cI) (cQ := cQ) (α := α) (σ := σ) (k := 1) vwf_0 (by decide) ha).2
  have e0 : (Int32.ofInt (σ a 0)).toInt = σ a 0 := i32_of (rσ a 0)
  have e1 : (Int32.ofInt (σ a 1)).toInt = σ a 1 := i32_of (rσ a 1)
  have eqk : ∀ (v : Int32) (x : Int), (Int32.ofInt x).toInt = x → (Int32.ofInt x = v ↔ x = v.toInt) := fun v x h => ⟨fun q => by rw [← h, q], fun q => Int32.toInt_inj.mp (by rw [h, q])⟩
  have ret : ∀ pc, decode prog_2_method_13_code pc = .ok (.return_, 1) → (σ a 0 = 6 ∨ σ a 1 = 0) → W p l e (headSpec wsF rkF).room s m #[.ref (α a)] below meth c s.heap [] 0 0 (vx_MQ below (va_Qv (fun _ : Unit => σ a 0 = 6 ∨ σ a 1 = 0) (fun _ t => va_P D vwCl (WS cI cQ α σ) t.heap) A) (vx_X (fun _ : Unit => ¬ (σ a 0 = 6 ∨ σ a 1 = 0)) (fun E _ t => E = failE (σ a 0) ∧ va_P D vwCl (WS cI cQ α σ) t.heap) A) #[.ref (α a)] s 1 6 A) (F0 m pc ls []) := by
    intro pc hdg hc
    refine vx_ret ?_
    refine W.widen (k := 1) (n := 6) (by decide) (by decide) ?_
    exact W.vret hx hb hr (fun t ht hW => ⟨⟨(), rfl, hc, by show va_P D vwCl (WS cI cQ α σ) t.heap; rw [ht]; exact hP⟩, hS.F ht⟩) hS.2.2 hdg
  have thr : ∀ (pc ik is ic : Nat) (text cls : String), XTK RX0 ik ic cls → (RX0, is, text) ∈ strE → cls = failE (σ a 0) → ¬ (σ a 0 = 6 ∨ σ a 1 = 0) → decode prog_2_method_13_code pc = .ok (.new ik, 3) → decode prog_2_method_13_code (pc + 3) = .ok (.dup, 1) → decode prog_2_method_13_code (pc + 4) = .ok (.ldc is, 2) → decode prog_2_method_13_code (pc + 6) = .ok (.invokespecial ic, 3) → decode prog_2_method_13_code (pc + 9) = .ok (.athrow, 1) → W p l e (headSpec wsF rkF).room s m #[.ref (α a)] below meth c s.heap [] 0 0 (vx_MQ below (va_Qv (fun _ : Unit => σ a 0 = 6 ∨ σ a 1 = 0) (fun _ t => va_P D vwCl (WS cI cQ α σ) t.heap) A) (vx_X (fun _ : Unit => ¬ (σ a 0 = 6 ∨ σ a 1 = 0)) (fun E _ t => E = failE (σ a 0) ∧ va_P D vwCl (WS cI cQ α σ) t.heap) A) #[.ref (α a)] s 1 6 A) (F0 m pc ls []) := by
    intro pc ik is ic text cls ok hst hcl hc d0 d3 d4 d6 d9
    obtain ⟨sa, hsa⟩ := hX.2.1 _ hst
    refine vx_throwS (names := nmsE) hx hb hl hown ok.2.2.2.2.2.2 (by decide +kernel) (hts _ ok.2.2.2.1) (hts _ ok.2.2.2.2.1) hsa (ok.at hX hts) ok.2.2.1 hX.1.1 hX.1.2 hS (by rw [hml]; exact hl0.1) d0 d3 d4 d6 d9 (fun x hx9 => (hno x hx9).elim) (by decide) (by decide) (by decide) (by decide) hlocks (fun t hal hz hq => ⟨(), hc, ⟨hcl, hP.kept (fun k x hk => hq x.1 ((hP k x hk).lt))⟩, hz, fun q h1 _ => hq q h1⟩) (fun z hz => by cases hz) (by decide) (by decide)
  refine lv_aload_n hx hb (show decode prog_2_method_13_code 0 = .ok (.aload_n 0, 1) by decide +kernel) rfl (lv_at hl0 0 rfl) ?_
  refine va_get (D := D) (ci := 0) (k := 0) hx hb hts vwf_0.2.2.2.1 hown hK hP a w1 rfl (by decide) (hts _ (gd_t (mt1 180 rfl) rfl)) (fun _ h9 => h9) g0 (show decode prog_2_method_13_code 1 = .ok (.getfield 11, 3) by decide +kernel) ?_
  refine lv_bipush (v := 6) hx hb (show decode prog_2_method_13_code 4 = .ok (.bipush 6, 2) by decide +kernel) (by decide) ?_
  refine lv_icmp_eq (tgt := 16) hx hb (show decode prog_2_method_13_code 6 = .ok (.if_icmp .eq 10, 3) by decide +kernel) (by decide) (fun h => ret 16 (show decode prog_2_method_13_code 16 = .ok (.return_, 1) by decide +kernel) (Or.inl ((eqk 6 _ e0).mp h))) (fun h6 => ?_)
  refine lv_aload_n hx hb (show decode prog_2_method_13_code 9 = .ok (.aload_n 0, 1) by decide +kernel) rfl (lv_at hl0 0 rfl) ?_
  refine va_get (D := D) (ci := 0) (k := 1) hx hb hts vwf_0.2.2.2.1 hown hK hP a w1 rfl (by decide) (hts _ (gd_t (mt1 182 rfl) rfl)) (fun _ h9 => h9) g1 (show decode prog_2_method_13_code 10 = .ok (.getfield 15, 3) by decide +kernel) ?_
  refine lv_if_ne (tgt := 17) hx hb (show decode prog_2_method_13_code 13 = .ok (.ifCond .ne 4, 3) by decide +kernel) (by decide) (fun h1 => ?_) (fun h => ret 16 (show decode prog_2_method_13_code 16 = .ok (.return_, 1) by decide +kernel) (Or.inr ((eqk 0 _ e1).mp h)))
  have hc : ¬ (σ a 0 = 6 ∨ σ a 1 = 0) := fun q => q.elim (fun q => h6 ((eqk 6 _ e0).mpr q)) (fun q => h1 ((eqk 0 _ e1).mpr q))
  refine lv_aload_n hx hb (show decode prog_2_method_13_code 17 = .ok (.aload_n 0, 1) by decide +kernel) rfl (lv_at hl0 0 rfl) ?_
  refine va_get (D := D) (ci := 0) (k := 0) hx hb hts vwf_0.2.2.2.1 hown hK hP a w1 rfl (by decide) (hts _ (gd_t (mt1 180 rfl) rfl)) (fun _ h9 => h9) g0 (show decode prog_2_method_13_code 18 = .ok (.getfield 11, 3) by decide +kernel) ?_
  refine lv_bipush (v := 7) hx hb (show decode prog_2_method_13_code 21 = .ok (.bipush 7, 2) by decide +kernel) (by decide) ?_
  refine lv_icmp_ne (tgt := 36) hx hb (show decode prog_2_method_13_code 23 = .ok (.if_icmp .ne 13, 3) by decide +kernel) (by decide) (fun h7 => ?_) (fun h => thr 26 77 79 81 "a hidden one" xnU xok_0 (by decide) (by unfold failE; rw [if_pos (show σ a 0 = 7 from (eqk 7 _ e0).mp h)]) hc (show decode prog_2_method_13_code 26 = .ok (.new 77, 3) by decide +kernel) (show decode prog_2_method_13_code 29 = .ok (.dup, 1) by decide +kernel) (show decode prog_2_method_13_code 30 = .ok (.ldc 79, 2) by decide +kernel) (show decode prog_2_method_13_code 32 = .ok (.invokespecial 81, 3) by decide +kernel) (show decode prog_2_method_13_code 35 = .ok (.athrow, 1) by decide +kernel))
  have n7 : ¬ σ a 0 = 7 := fun q => h7 ((eqk 7 _ e0).mpr q)
  refine lv_aload_n hx hb (show decode prog_2_method_13_code 36 = .ok (.aload_n 0, 1) by decide +kernel) rfl (lv_at hl0 0 rfl) ?_
  refine va_get (D := D) (ci := 0) (k := 0) hx hb hts vwf_0.2.2.2.1 hown hK hP a w1 rfl (by decide) (hts _ (gd_t (mt1 180 rfl) rfl)) (fun _ h9 => h9) g0 (show decode prog_2_method_13_code 37 = .ok (.getfield 11, 3) by decide +kernel) ?_
  refine lv_iconst (v := 5) hx hb (show decode prog_2_method_13_code 40 = .ok (.iconst 5, 1) by decide +kernel) (by decide) ?_
  refine lv_icmp_ne (tgt := 54) hx hb (show decode prog_2_method_13_code 41 = .ok (.if_icmp .ne 13, 3) by decide +kernel) (by decide) (fun h5 => thr 54 89 91 93 "a move" xnS xok_2 (by decide) (by unfold failE; rw [if_neg n7, if_neg (show ¬ σ a 0 = 5 from fun q => h5 ((eqk 5 _ e0).mpr q))]) hc (show decode prog_2_method_13_code 54 = .ok (.new 89, 3) by decide +kernel) (show decode prog_2_method_13_code 57 = .ok (.dup, 1) by decide +kernel) (show decode prog_2_method_13_code 58 = .ok (.ldc 91, 2) by decide +kernel) (show decode prog_2_method_13_code 60 = .ok (.invokespecial 93, 3) by decide +kernel) (show decode prog_2_method_13_code 63 = .ok (.athrow, 1) by decide +kernel)) (fun h => thr 44 84 86 88 "a pair" xnA xok_1 (by decide) (by unfold failE; rw [if_neg n7, if_pos (show σ a 0 = 5 from (eqk 5 _ e0).mp h)]) hc (show decode prog_2_method_13_code 44 = .ok (.new 84, 3) by decide +kernel) (show decode prog_2_method_13_code 47 = .ok (.dup, 1) by decide +kernel) (show decode prog_2_method_13_code 48 = .ok (.ldc 86, 2) by decide +kernel) (show decode prog_2_method_13_code 50 = .ok (.invokespecial 88, 3) by decide +kernel) (show decode prog_2_method_13_code 53 = .ok (.athrow, 1) by decide +kernel))
