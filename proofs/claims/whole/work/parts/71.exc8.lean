/-! the law's case of element (written by genexc.py) -/
section LAWJ
variable {p : Program} {l : Launch} {e : Env} {s : State} {m : MethodId} {below : List Frame} {meth : Method} {c : Code} {b L : Nat} {xs : Nat → Int32} {D : va_G} {cI cQ cJ : ClassId} {α : Nat → Nat} {qo : Nat} {H : Heap} {locs : List Loc} {cells slots : Nat} {Q : State → Prop} {pc : Nat} {ls : Array Slot} {rest : List Value} {o : Nat → Int64} {σ : Sg}
theorem lc_callJ (X : Lc p s m meth c b L xs D cI cQ cJ α qo) {mid k a : Nat} {M : Mi} {as : List Av} {K : Kt} (hM : MT[mid]? = some M) (hk : Cond.methodLink R_law k M.2.2.2.1 ∈ lw_tbl) (hrk : M.2.1 = 3) (hst : M.2.2.2.2.2.2.2.2 = 0) (hca : CLS a = M.2.2.1) (hal : as.length + 1 = M.2.2.2.2.2.2.2.1) (hc : wpCall 20 mid (aR a :: as) σ K) (rA : RL as) (rσ : RS σ)
    (hP : va_P D vwCl (WS cI cQ α σ) H) (hO : va_P D vwCl (oW qo cJ o) H) (hS : va_S (lA s) s.heap H locs) (hl : ls.size = 8) (hrest : (rest.map fun v => v.category).sum ≤ 8) (hcs : cells ≤ room_1.cells ∧ slots ≤ room_1.slots) (hdg : decode code pc = .ok (.invokevirtual k, 3))
    (kk : ∀ (r : Int64) (σ1 : Sg) (H1 : Heap) (locs1 : List Loc), K r.toInt σ1 → RS σ1 → va_P D vwCl (WS cI cQ α σ1) H1 → va_P D vwCl (oW qo cJ o) H1 → va_S (lA s) s.heap H1 locs1 → W p l e room_1 s m #[Value.ref b] below meth c H1 locs1 cells slots Q (F0 m (pc + 3) ls (.long r :: rest))) :
    W p l e room_1 s m #[Value.ref b] below meth c H locs cells slots Q (F0 m pc ls ((as.map (tr α)).reverse ++ .ref (α a) :: rest)) := by
  obtain ⟨⟨hx, hb, hr, hml, hown, hts, hX, hbl, hlocks, hgv⟩, hK, hN, hDw, hqo, hqs, hKJ, hL⟩ := id X
  have hgd : ∀ w ∈ lw_good, w.before #[Value.ref b] s = true := fun w hw => hts w (List.mem_filter.mp hw).1
  obtain ⟨k1, k2, k3, k4, k5, k6, k7, k8, k8b, k9⟩ := MT_ok M (List.mem_of_getElem? hM)
  have hD0 : va_D (fun _ => True) (WS cI cQ α σ) := (va_D_ws hDw).weaken (fun _ _ _ _ => True.intro)
  have hMet := sound l 20 mid M (aR a :: as) σ K hM hc (RL_cons (show Rv (aR a) from True.intro) rA) rσ D cI cQ α H.size hD0
  have hFix : CallFix p m c code 8 s #[Value.ref b] lw_tbl R_law := ⟨hx, hb, hml, hown, hts⟩
  have hG : GoodIn lw_tbl (wsA M) := fun w hw => by
    rcases List.mem_cons.mp hw with rfl | hw
    · exact lw_goodTbl _ k2
    · exact lw_goodTbl w hw
  have hU : ∀ U : State, U.heap = H → s.WarmedH U.vm → va_Pc ((aR a :: as).map (tr α)) (fun U => U.heap.size = H.size ∧ Wd D cI cQ α σ U) ((aR a :: as).map (tr α)).toArray U := fun U hU hW => ⟨rfl, by rw [hU], by rw [hU]; exact hP, va_K.moved hW.alike hK, NWs.warm hW hN⟩
  rcases k9 with ⟨-, c8, cin, csel⟩ | ⟨q, -⟩
  · have hn : (as.map (tr α)).length = M.2.2.2.2.2.2.2.1 - 1 := by rw [List.length_map]; omega
    have hpar : (parseMethodDescriptor M.2.2.2.1.desc).map (fun d => d.parameters.length) = some (M.2.2.2.2.2.2.2.1 - 1) := by
      have h9 := k4.2.2
      rw [hst] at h9
      cases hp : parseMethodDescriptor M.2.2.2.1.desc with
      | none => rw [hp] at h9; cases h9
      | some d0 =>
        rw [hp] at h9
        simp only [Option.map_some, Option.some.injEq] at h9 ⊢
        omega
    obtain ⟨C, T, N, hw⟩ : ∃ C T N, vwCl[M.2.2.1]? = some (C, T, N) := vw_ex c8
    have hFv := vwf_of hw
    have hrec : ∃ cell : Cell, H[α a]? = some cell ∧ cell.vm.isStatics = false ∧ s.vm.findClass M.2.2.2.1.cls = some cell.cls := by
      have := va_recv hK hP hw (q0 := a) (a := α a) (fs := (List.range (NFl.getD M.2.2.1 0)).map (cellV α σ M.2.2.1 a)) (by rw [WS_get (CLS_lt (by omega)), wcell_obj hca c8])
      rw [k6, ← hFv.2.2.1]
      exact this
    have hpre : PreV s H M.2.2.2.1.cls (α a) (va_Pc ((aR a :: as).map (tr α)) (fun U => U.heap.size = H.size ∧ Wd D cI cQ α σ U)) (as.map (tr α)) := ⟨Pc_blind, hrec, hU⟩
    have hF := lc_free X hS (σ := σ)
    have hsh : ∀ rm' : Room, rm' = rmD 20 → rm'.frames + 1 ≤ room_1.frames ∧ 8 + (M.2.2.2.2.2.1 + 11) + rm'.locals ≤ room_1.locals := fun rm' q => by
      subst q
      exact ⟨by decide, Nat.le_trans (show 8 + (M.2.2.2.2.2.1 + 11) + (rmD 20).locals ≤ 8 + (20 + 11) + 800 by show 8 + (M.2.2.2.2.2.1 + 11) + 40 * 20 ≤ _; omega) (by decide)⟩
    have hrun := va_runV (R := room_1) (e := e) (below := below) (meth := meth) (locs := locs) (cells := cells) (slots := slots) (g := F0 m pc ls ((as.map (tr α)).reverse ++ .ref (α a) :: rest)) (rest := rest) hFix hMet (cwV (M.2.2.2.2.2.2.2.1 - 1) hts (fun w hw => by
      rcases List.mem_append.mp hw with hw | hw
      · rcases List.mem_cons.mp hw with rfl | hw
        · exact ⟨hk, Or.inl rfl⟩
        · rcases List.mem_cons.mp hw with rfl | hw
          · exact lw_goodTbl _ cin
          · rcases List.mem_cons.mp hw with rfl | hw
            · exact lw_goodTbl _ csel
            · rcases List.mem_cons.mp hw with rfl | hw
              · exact lw_goodTbl _ k3
              · cases hw
      · exact hG w hw) rfl rfl rfl ⟨rfl, k4.1, k4.2.1, hpar⟩ (hsh _ rfl)) hpre rfl hn hl rfl (lv_room hrest) hdg hcs
    have keepO : ∀ H1 : Heap, (∀ q : Nat, q < H.size → ¬ va_A (WS cI cQ α σ) H.size q → H1[q]? = H[q]?) → va_P D vwCl (oW qo cJ o) H1 := fun H1 hk1 => hO.kept (fun k x hx => by
      have h1 : k < 1 := (List.getElem?_eq_some_iff.mp hx).1
      have h2 := (hO k x hx).lt
      rw [show k = 0 by omega] at hx
      cases hx
      exact hk1 _ h2 (lc_apart X h2))
    rw [hrk] at hrun
    exact va_calll (a := (Value.ref (α a) :: as.map (tr α)).toArray) (post := fun (r : Int64) (u : Sg) => (K r.toInt u ∧ R32 r.toInt) ∧ RS u) (B := fun u t => Wd D cI cQ α u t) hrun hS (fun q _ h => hF q h) hF (fun r u t H1 locs1 ht hvm hw hB hz1 hk1 hS1 => kk r u H1 locs1 hw.1.1 hw.2 (by rw [← ht]; exact hB.1) (keepO H1 hk1) hS1)
  · rw [hst] at q; cases q
end LAWJ
theorem wsL_good : GoodIn lw_good wsL := fun w hw => by
  rcases List.mem_cons.mp hw with rfl | hw
  · exact lw_goodIn _ (gd_t (mt5 50 rfl) rfl)
  · exact lw_goodIn w hw
set_option maxHeartbeats 4000000 in
set_option maxRecDepth 100000 in
theorem lcs_36 {p : Program} {l : Launch} {e : Env} {s : State} {m : MethodId} {below : List Frame} {meth : Method} {c : Code} {b L : Nat} {xs : Nat → Int32} {D : va_G} {cI cQ cJ : ClassId} {α : Nat → Nat} {qo : Nat} {Q : State → Prop} (X : Lc p s m meth c b L xs D cI cQ cJ α qo) (hst : l.stackTraces = false) (hX : XE (lA s) s) : LCs p l e s m below meth c b L xs D cI cQ cJ α qo Q 1296 := by
  intro H locs cells slots ls o σ T P i hi hI rσ hP hO hS hl hcs kk
  have G := lc_Gx X
  obtain ⟨⟨hx, hb, hml, hown, hts⟩, hK, hN, hA, hDw⟩ := id G
  have hD0 : va_D (fun _ => True) (WS cI cQ α σ) := (va_D_ws hDw).weaken (fun _ _ _ _ => True.intro)
  have hqs : s.heap.size ≤ qo := X.2.2.2.2.2.1
  have hKJ : va_K D vwCl [(cJ, .long)] s := X.2.2.2.2.2.2.1
  refine lv_aload_n hx hb (show decode code 1296 = .ok (.aload_n 1, 1) by decide +kernel) rfl (lv_at hl 1 rfl) ?_
  refine lc_arg X (i := i) (k := 1) (v := 1) hS (by omega) (lv_at hl 0 rfl) (lv_at hl 4 rfl) (by decide) (show decode code 1297 = .ok (.aload_n 0, 1) by decide +kernel) (show decode code 1298 = .ok (.iload 4, 2) by decide +kernel) (show decode code 1300 = .ok (.iconst 1, 1) by decide +kernel) (show decode code 1301 = .ok (.iadd, 1) by decide +kernel) (show decode code 1302 = .ok (.iaload, 1) by decide +kernel) ?_
  refine lc_arg X (i := i) (k := 2) (v := 2) hS (by omega) (lv_at hl 0 rfl) (lv_at hl 4 rfl) (by decide) (show decode code 1303 = .ok (.aload_n 0, 1) by decide +kernel) (show decode code 1304 = .ok (.iload 4, 2) by decide +kernel) (show decode code 1306 = .ok (.iconst 2, 1) by decide +kernel) (show decode code 1307 = .ok (.iadd, 1) by decide +kernel) (show decode code 1308 = .ok (.iaload, 1) by decide +kernel) ?_
  refine lv_aload_n hx hb (show decode code 1309 = .ok (.aload_n 3, 1) by decide +kernel) rfl (lv_at hl 3 rfl) ?_
  have hF := gx_free G hS (σ := σ)
  have hFq : ∀ q, lAq cI cQ α σ H.size qo q → lA s q := fun q h => h.elim (hF q) (fun z => by rw [z]; exact hqs)
  have rx : R32 (xs (i + 1)).toInt := i32_R _
  have ry : R32 (xs (i + 2)).toInt := i32_R _
  have hpre : PreS s H (va_Pc [.ref (α 45), .int (Int32.ofInt (xs (i + 1)).toInt), .int (Int32.ofInt (xs (i + 2)).toInt), .ref qo] (fun U => (U.heap.size = H.size ∧ Wd D cI cQ α σ U) ∧ XE (lAq cI cQ α σ H.size qo) U ∧ va_P D vwCl (oW qo cJ o) U.heap ∧ va_K D vwCl [(cJ, .long)] U)) [.ref (α 45), .int (Int32.ofInt (xs (i + 1)).toInt), .int (Int32.ofInt (xs (i + 2)).toInt), .ref qo] := ⟨fun a U g mk q => by
    obtain ⟨q0, ⟨q1, qP, qK, qN⟩, qX, qO, qJ⟩ := q
    exact ⟨q0, ⟨q1, qP, va_K.moved (u := U) (U := U.calling g mk a) (Vm.Alike.refl U.vm) qK, NWs.same (u := U) (U := U.calling g mk a) rfl qN⟩, qX.call, qO, va_K.moved (u := U) (U := U.calling g mk a) (Vm.Alike.refl U.vm) qJ⟩, fun U hU hW => ⟨rfl, ⟨by rw [hU], by rw [hU]; exact hP, va_K.moved hW.alike hK, NWs.warm hW hN⟩, hX.warm hW hU hS hFq, by rw [hU]; exact hO, va_K.moved hW.alike hKJ⟩⟩
  refine vx_calli (vx_runSX (As := [.ref (α 45), .int (Int32.ofInt (xs (i + 1)).toInt), .int (Int32.ofInt (xs (i + 2)).toInt), .ref qo]) (rest := []) (hh := hhL) G.1 (c_lel l hst D cI cQ cJ α qo o σ T P H.size _ _ hI rσ rx ry hD0 X.2.2.2.2.1) (vx_cwSW 4 hts (fun w hw => by
      rcases List.mem_append.mp hw with hw | hw
      · rcases List.mem_cons.mp hw with rfl | hw
        · exact lw_goodIn _ (gd_t (mt5 48 rfl) rfl)
        · rcases List.mem_cons.mp hw with rfl | hw
          · exact lw_goodIn _ (gd_t (mt5 49 rfl) rfl)
          · rcases List.mem_cons.mp hw with rfl | hw
            · exact lw_goodIn _ (gd_t (mt1 0 rfl) rfl)
            · cases hw
      · exact wsL_good w hw) rfl rfl rfl ⟨by decide, by decide, by decide +kernel⟩ ⟨by decide, by decide⟩) hpre rfl rfl hl.1 rfl (lv_room (Nat.le_of_ble_eq_true rfl)) (show decode code 1310 = .ok (.invokestatic 170, 3) by decide +kernel) ⟨by show cells + 1 ≤ _; omega, by show slots + 6 ≤ _; omega⟩) hS (fun q _ h => hFq q h) hFq (fun q _ h => hFq q h) (fun E ce q9 u t H1 locs1 ht hal hpx _ _ _ _ _ _ _ => hpx.elim) (fun r o1 t H1 locs1 ht hal hpost hB hz1 hk1 hS1 => ?_)
  obtain ⟨hP1, hO1⟩ : va_P D vwCl (WS cI cQ α σ) H1 ∧ va_P D vwCl (oW qo cJ o1) H1 := by rw [← ht]; exact hB
  refine lv_istore (lv' := [(5, .int r), (0, .ref b), (1, .ref (α 45)), (2, .ref (α 85)), (3, .ref qo), (4, .int (nI i))]) hx hb (show decode code 1313 = .ok (.istore 5, 2) by decide +kernel) hl (by decide) rfl (fun ls1 hl1 => ?_)
  refine lv_aload_n hx hb (show decode code 1315 = .ok (.aload_n 2, 1) by decide +kernel) rfl (lv_at hl1 3 rfl) ?_
  refine lc_arg X (i := i) (k := 1) (v := 1) hS1 (by omega) (lv_at hl1 1 rfl) (lv_at hl1 5 rfl) (by decide) (show decode code 1316 = .ok (.aload_n 0, 1) by decide +kernel) (show decode code 1317 = .ok (.iload 4, 2) by decide +kernel) (show decode code 1319 = .ok (.iconst 1, 1) by decide +kernel) (show decode code 1320 = .ok (.iadd, 1) by decide +kernel) (show decode code 1321 = .ok (.iaload, 1) by decide +kernel) ?_
  refine lc_arg X (i := i) (k := 2) (v := 2) hS1 (by omega) (lv_at hl1 1 rfl) (lv_at hl1 5 rfl) (by decide) (show decode code 1322 = .ok (.aload_n 0, 1) by decide +kernel) (show decode code 1323 = .ok (.iload 4, 2) by decide +kernel) (show decode code 1325 = .ok (.iconst 2, 1) by decide +kernel) (show decode code 1326 = .ok (.iadd, 1) by decide +kernel) (show decode code 1327 = .ok (.iaload, 1) by decide +kernel) ?_
  refine lc_callJ X (mid := iX7_element) (M := mX7_element) (as := [aI (xs (i + 1)).toInt, aI (xs (i + 2)).toInt]) (a := 85) (K := fun r2 σ1 => r2 = (if elK σ (xs (i + 1)).toInt (xs (i + 2)).toInt = 0 then elV σ (xs (i + 1)).toInt (xs (i + 2)).toInt else 0) ∧ σ1 = up σ 85 15 (elK σ (xs (i + 1)).toInt (xs (i + 2)).toInt)) rfl (List.mem_append_right _ (mt7 54 rfl)) rfl rfl rfl rfl (y_element hI ⟨rfl, rfl⟩) (RL_cons rx (RL_cons ry RL_nil)) rσ hP1 hO1 hS1 hl1.1 (Nat.le_of_ble_eq_true rfl) ⟨by omega, by omega⟩ (show decode code 1328 = .ok (.invokevirtual 175, 3) by decide +kernel) (fun r2 σ1 H1 locs1 hK1 rσ1 hP1 hO1 hS1 => ?_)
  obtain ⟨hr2, hs1⟩ := hK1
  refine lv_lstore (lv' := [(6, .long r2), (5, .int r), (0, .ref b), (1, .ref (α 45)), (2, .ref (α 85)), (3, .ref qo), (4, .int (nI i))]) hx hb (show decode code 1331 = .ok (.lstore 6, 2) by decide +kernel) hl1 (by decide) rfl (fun ls2 hl2 => ?_)
  refine lv_aload_n hx hb (show decode code 1333 = .ok (.aload_n 2, 1) by decide +kernel) rfl (lv_at hl2 4 rfl) ?_
  refine lc_call X (mid := iX7_thrown) (M := mX7_thrown) (as := []) (a := 85) (K := fun r3 σ2 => r3 = σ1 85 15 ∧ σ2 = σ1) rfl (List.mem_append_right _ (mt5 189 rfl)) (Or.inl rfl) rfl rfl rfl (y_thrown ⟨rfl, rfl⟩) RL_nil rσ1 hP1 hO1 hS1 hl2.1 (Nat.le_of_ble_eq_true rfl) ⟨by omega, by omega⟩ (show decode code 1334 = .ok (.invokevirtual 176, 3) by decide +kernel) (fun r3 σ2 H1 locs1 hK2 rσ2 hP1 hO1 hS1 => ?_)
  obtain ⟨hr3, hs2⟩ := hK2
  have hI2 : Inv σ2 T P := by rw [hs2, hs1]; exact Inv_thrown hI
  have e3 : r3 = r := Int32.toInt_inj.mp (by rw [hr3, hs1, up_self, hpost.1])
  refine lv_iload hx hb (show decode code 1337 = .ok (.iload 5, 2) by decide +kernel) (lv_at hl2 1 rfl) ?_
  refine lv_icmp_eq (tgt := 1344) hx hb (show decode code 1339 = .ok (.if_icmp .eq 5, 3) by decide +kernel) (by decide) (fun _ => ?_) (fun h => absurd e3 h)
  have fin : W p l e room_1 s m #[Value.ref b] below meth c H1 locs1 (cells + 1) (slots + 6) Q (F0 m 1360 ls2 []) := by
    refine lv_goto (tgt := 1486) hx hb (show decode code 1360 = .ok (.goto 126, 3) by decide +kernel) (by decide) ?_
    exact kk σ2 T P o1 H1 locs1 ls2 _ _ (by omega) (by omega) hI2 rσ2 hP1 hO1 hS1 (lv_sub hl2 [2, 3, 4, 5, 6] rfl)
  refine lv_iload hx hb (show decode code 1344 = .ok (.iload 5, 2) by decide +kernel) (lv_at hl2 1 rfl) ?_
  refine lv_if_ne (tgt := 1360) hx hb (show decode code 1346 = .ok (.ifCond .ne 14, 3) by decide +kernel) (by decide) (fun _ => fin) (fun h0 => ?_)
  have k0 : elK σ (xs (i + 1)).toInt (xs (i + 2)).toInt = 0 := by rw [← hpost.1, h0]; rfl
  refine lv_aload_n hx hb (show decode code 1349 = .ok (.aload_n 3, 1) by decide +kernel) rfl (lv_at hl2 5 rfl) ?_
  refine lv_iconst (v := 0) hx hb (show decode code 1350 = .ok (.iconst 0, 1) by decide +kernel) (by decide) ?_
  refine va_lald (D := D) hx hb hKJ hO1 0 0 rfl rfl (by rw [vp_in_iff]; decide) (show decode code 1351 = .ok (.laload, 1) by decide +kernel) ?_
  refine lv_lload hx hb (show decode code 1352 = .ok (.lload 6, 2) by decide +kernel) (lv_at hl2 0 rfl) ?_
  refine W.lcmp hx hb (show decode code 1354 = .ok (.lcmp, 1) by decide +kernel) ?_
  refine lv_if_eq (tgt := 1360) hx hb (show decode code 1355 = .ok (.ifCond .eq 5, 3) by decide +kernel) (by decide) (fun _ => fin) (fun h => absurd ((lg_cmp_eq _ _).mpr (Int64.toInt_inj.mp ?_)) h)
  rw [hr2, if_pos k0]
  exact hpost.2 k0
