/-! the law's case of toss (written by genexc.py) -/
theorem y_toss {x : Int} {σ T P : Sg} {K : Kt} (h : Inv σ T P) (hk : K (tossF σ x) σ) : wpCall 20 iX7_toss [aR 85, aI x] σ K := by
  unfold tossF at hk
  refine bX7_toss (y_wrongKept (k := 16) ⟨fun q => ?_, fun q => ?_⟩)
  · rw [if_pos q] at hk
    obtain ⟨d, rfl, hd, h92⟩ := refK_0 q
    rw [Int.toNat_natCast] at hk ⊢
    have hl := l92
    refine ⟨by omega, by omega, by omega, by omega, fun q6 => ?_, fun q6 => ⟨fun q0 => ?_, fun q0 => ⟨fun q5 => ?_, fun q5 => ⟨fun q7 => ?_, fun q7 => ?_⟩⟩⟩⟩
    · rw [if_pos (Or.inl q6)] at hk; exact hk
    · rw [if_pos (Or.inr q0)] at hk; exact hk
    · rw [if_neg (fun z => z.elim q6 q0), if_neg (by omega), if_pos q5] at hk; exact hk
    · rw [if_neg (fun z => z.elim q6 q0), if_pos q7] at hk
      exact y_lettersOf (k := 17) (h.2.2.2 d hd) hd h92 hk
    · rw [if_neg (fun z => z.elim q6 q0), if_neg q7, if_neg q5] at hk; exact hk
  · rw [if_neg q] at hk; exact hk
theorem lc_Gx {p : Program} {s : State} {m : MethodId} {meth : Method} {c : Code} {b L : Nat} {xs : Nat → Int32} {D : va_G} {cI cQ cJ : ClassId} {α : Nat → Nat} {qo : Nat} (X : Lc p s m meth c b L xs D cI cQ cJ α qo) : Gx p s m #[Value.ref b] meth c code 8 R_law D cI cQ α (lA s) := by
  obtain ⟨⟨hx, hb, hr, hml, hown, hts, hX, hbl, hlocks, hgv⟩, hK, hN, hDw, hqo, hqs, hKJ, hL⟩ := X
  exact ⟨⟨hx, hb, hml, hown, fun w hw => hts w (List.mem_filter.mp hw).1⟩, hK, hN, fun q h => h, hDw⟩
theorem wsT_good : GoodIn lw_good wsT := fun w hw => by
  rcases List.mem_cons.mp hw with rfl | hw
  · exact lw_goodIn _ (gd_t (mt4 180 rfl) rfl)
  · exact lw_goodIn w hw
theorem lc_keepO {p : Program} {s : State} {m : MethodId} {meth : Method} {c : Code} {b L : Nat} {xs : Nat → Int32} {D : va_G} {cI cQ cJ : ClassId} {α : Nat → Nat} {qo : Nat} (X : Lc p s m meth c b L xs D cI cQ cJ α qo) {σ : Sg} {H H1 : Heap} {o : Nat → Int64} (hO : va_P D vwCl (oW qo cJ o) H) (hk1 : ∀ q : Nat, q < H.size → ¬ va_A (WS cI cQ α σ) H.size q → H1[q]? = H[q]?) : va_P D vwCl (oW qo cJ o) H1 := hO.kept (fun k x hx => by
  have h1 : k < 1 := (List.getElem?_eq_some_iff.mp hx).1
  have h2 := (hO k x hx).lt
  rw [show k = 0 by omega] at hx
  cases hx
  exact hk1 _ h2 (lc_apart X h2))
set_option maxHeartbeats 4000000 in
theorem lcs_39 {p : Program} {l : Launch} {e : Env} {s : State} {m : MethodId} {below : List Frame} {meth : Method} {c : Code} {b L : Nat} {xs : Nat → Int32} {D : va_G} {cI cQ cJ : ClassId} {α : Nat → Nat} {qo : Nat} {Q : State → Prop} (X : Lc p s m meth c b L xs D cI cQ cJ α qo) (hst : l.stackTraces = false) (hX : XE (lA s) s) : LCs p l e s m below meth c b L xs D cI cQ cJ α qo Q 1461 := by
  intro H locs cells slots ls o σ T P i hi hI rσ hP hO hS hl hcs kk
  have G := lc_Gx X
  obtain ⟨⟨hx, hb, hml, hown, hts⟩, hK, hN, hA, hDw⟩ := id G
  have hD0 : va_D (fun _ => True) (WS cI cQ α σ) := (va_D_ws hDw).weaken (fun _ _ _ _ => True.intro)
  refine lv_aload_n hx hb (show decode code 1461 = .ok (.aload_n 1, 1) by decide +kernel) rfl (lv_at hl 1 rfl) ?_
  refine lc_arg X (i := i) (k := 1) (v := 1) hS (by omega) (lv_at hl 0 rfl) (lv_at hl 4 rfl) (by decide) (show decode code 1462 = .ok (.aload_n 0, 1) by decide +kernel) (show decode code 1463 = .ok (.iload 4, 2) by decide +kernel) (show decode code 1465 = .ok (.iconst 1, 1) by decide +kernel) (show decode code 1466 = .ok (.iadd, 1) by decide +kernel) (show decode code 1467 = .ok (.iaload, 1) by decide +kernel) ?_
  have hF := gx_free G hS (σ := σ)
  have rx : R32 (xs (i + 1)).toInt := i32_R _
  have hrec : ∃ cell : Cell, H[α 45]? = some cell ∧ cell.vm.isStatics = false ∧ s.vm.findClass RX6 = some cell.cls := va_recv hK hP (ci := 6) rfl (fld_at (cI := cI) (cQ := cQ) (α := α) (σ := σ) (k := 6) (a := 45) vwf_6 (by decide) rfl).1
  have hpre : PreV s H RX6 (α 45) (va_Pc [.ref (α 45), .int (Int32.ofInt (xs (i + 1)).toInt)] (fun U => (U.heap.size = H.size ∧ Wd D cI cQ α σ U) ∧ XE (va_A (WS cI cQ α σ) H.size) U)) [.int (Int32.ofInt (xs (i + 1)).toInt)] := ⟨fun a U g mk q => by
    obtain ⟨q0, ⟨q1, qP, qK, qN⟩, qX⟩ := q
    exact ⟨q0, ⟨q1, qP, va_K.moved (u := U) (U := U.calling g mk a) (Vm.Alike.refl U.vm) qK, NWs.same (u := U) (U := U.calling g mk a) rfl qN⟩, qX.call⟩, hrec, fun U hU hW => ⟨rfl, ⟨by rw [hU], by rw [hU]; exact hP, va_K.moved hW.alike hK, NWs.warm hW hN⟩, hX.warm hW hU hS (fun q h => hF q h)⟩⟩
  refine vx_calli (vx_runVX (As := [.int (Int32.ofInt (xs (i + 1)).toInt)]) (rest := []) (hh := hhT) G.1 (c_toss l hst D cI cQ α σ T P H.size _ hI rσ rx hD0) (vx_cwVW 1 hts (fun w hw => by
      rcases List.mem_append.mp hw with hw | hw
      · rcases List.mem_cons.mp hw with rfl | hw
        · exact lw_goodIn _ (gd_t (mt4 177 rfl) rfl)
        · rcases List.mem_cons.mp hw with rfl | hw
          · exact lw_goodIn _ (gd_t (mt4 178 rfl) rfl)
          · rcases List.mem_cons.mp hw with rfl | hw
            · exact lw_goodIn _ (gd_t (mt4 179 rfl) rfl)
            · rcases List.mem_cons.mp hw with rfl | hw
              · exact lw_goodIn _ (gd_t (mt1 1 rfl) rfl)
              · cases hw
      · exact wsT_good w hw) rfl rfl rfl ⟨rfl, by decide, by decide, by decide +kernel⟩ ⟨by decide, by decide⟩) hpre rfl rfl hl.1 rfl (lv_room (Nat.le_of_ble_eq_true rfl)) (show decode code 1468 = .ok (.invokevirtual 188, 3) by decide +kernel) ⟨by show cells + 1 ≤ _; omega, by show slots + 6 ≤ _; omega⟩) hS (fun q _ h => hF q h) hF (fun q _ h => hF q h) (fun E ce q9 u t H1 locs1 ht hal hpx _ _ _ _ _ _ _ => hpx.elim) (fun r u t H1 locs1 ht hal hpost hB hz1 hk1 hS1 => ?_)
  have hP1 : va_P D vwCl (WS cI cQ α σ) H1 := by rw [← ht]; exact hB
  have hO1 := lc_keepO X hO hk1
  refine lv_aload_n hx hb (show decode code 1471 = .ok (.aload_n 2, 1) by decide +kernel) rfl (lv_at hl 2 rfl) ?_
  refine lc_arg X (i := i) (k := 1) (v := 1) hS1 (by omega) (lv_at hl 0 rfl) (lv_at hl 4 rfl) (by decide) (show decode code 1472 = .ok (.aload_n 0, 1) by decide +kernel) (show decode code 1473 = .ok (.iload 4, 2) by decide +kernel) (show decode code 1475 = .ok (.iconst 1, 1) by decide +kernel) (show decode code 1476 = .ok (.iadd, 1) by decide +kernel) (show decode code 1477 = .ok (.iaload, 1) by decide +kernel) ?_
  refine lc_call X (mid := iX7_toss) (M := mX7_toss) (as := [aI (xs (i + 1)).toInt]) (a := 85) (K := fun r2 σ1 => r2 = tossF σ (xs (i + 1)).toInt ∧ σ1 = σ) rfl (List.mem_append_right _ (mt7 77 rfl)) (Or.inl rfl) rfl rfl rfl (y_toss hI ⟨rfl, rfl⟩) (RL_cons rx RL_nil) rσ hP1 hO1 hS1 hl.1 (Nat.le_of_ble_eq_true rfl) ⟨by omega, by omega⟩ (show decode code 1478 = .ok (.invokevirtual 191, 3) by decide +kernel) (fun r2 σ1 H1 locs1 hK1 _ hP1 hO1 hS1 => ?_)
  obtain ⟨hr2, hs1⟩ := hK1
  rw [hs1] at hP1
  refine lv_icmp_eq (tgt := 1486) hx hb (show decode code 1481 = .ok (.if_icmp .eq 5, 3) by decide +kernel) (by decide) (fun _ => ?_) (fun h => absurd (Int32.toInt_inj.mp (by rw [hpost, hr2])) h)
  exact kk σ T P o H1 locs1 ls _ _ (by omega) (by omega) hI rσ hP1 hO1 hS1 hl
