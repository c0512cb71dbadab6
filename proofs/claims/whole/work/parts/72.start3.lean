/-! THE START OF THE LAW (written by genfin.py) -/
set_option maxRecDepth 100000 in
theorem xe_start {s : State} {b : Nat} (hts : ∀ w ∈ lw_tbl, w.before #[Value.ref b] s = true) (hgv : (Jvm.Cond.and given_1 narrow_1).before #[Value.ref b] s = true) : XE (lA s) s := by
  have hs := flat_of_before _ hgv
  have T : ∀ w ∈ tables_1, w.before #[Value.ref b] s = true := fun w hw => hts w (List.mem_append_right _ hw)
  have hA : ∀ a : Nat, a < s.heap.size → ¬ lA s a := fun a h => Nat.not_le.mpr h
  have str : ∀ (own : String) (k : Nat) (tx : String), Cond.stringRef own k tx ∈ tables_1 → Cond.exactly (.string own k) "java/lang/String" ∈ flatC (Jvm.Cond.and given_1 narrow_1) → ∃ a, vk_R own k tx a s := fun own k tx h1 h2 => by
    obtain ⟨a, -, -, -, ha, -⟩ := Cond.exactly_spec (hs _ h2)
    exact ⟨a, vk_R.of (A := #[Value.ref b]) (T _ h1) ha⟩
  refine ⟨⟨vx_Zqof (T _ (mt4 215 rfl)) (T _ (mt1 13 rfl)) (hs _ (by decide +kernel)) hA, vx_Zqof (T _ (mt4 217 rfl)) (T _ (mt1 13 rfl)) (hs _ (by decide +kernel)) hA⟩, ?_, ?_, ?_, ?_⟩
  · show ∀ q ∈ strE, ∃ a, vk_R q.1 q.2.1 q.2.2 a s
    exact List.forall_mem_cons.mpr ⟨str _ _ _ (mt4 229 rfl) (by decide +kernel), List.forall_mem_cons.mpr ⟨str _ _ _ (mt5 25 rfl) (by decide +kernel), List.forall_mem_cons.mpr ⟨str _ _ _ (mt5 41 rfl) (by decide +kernel), List.forall_mem_cons.mpr ⟨str _ _ _ (mt5 57 rfl) (by decide +kernel), List.forall_mem_cons.mpr ⟨str _ _ _ (mt5 59 rfl) (by decide +kernel), List.forall_mem_cons.mpr ⟨str _ _ _ (mt5 61 rfl) (by decide +kernel), fun _ h => absurd h List.not_mem_nil⟩⟩⟩⟩⟩⟩
  · exact List.forall_mem_cons.mpr ⟨va_Nw.of rfl (T _ (mt4 192 rfl)), List.forall_mem_cons.mpr ⟨va_Nw.of rfl (T _ (mt4 194 rfl)), List.forall_mem_cons.mpr ⟨va_Nw.of rfl (T _ (mt4 196 rfl)), fun _ h => absurd h List.not_mem_nil⟩⟩⟩
  · exact List.forall_mem_cons.mpr ⟨va_Nw.of rfl (T _ (mt4 190 rfl)), List.forall_mem_cons.mpr ⟨va_Nw.of rfl (T _ (mt5 18 rfl)), List.forall_mem_cons.mpr ⟨va_Nw.of rfl (T _ (mt5 34 rfl)), fun _ h => absurd h List.not_mem_nil⟩⟩⟩
  · exact List.forall_mem_cons.mpr ⟨va_Nc.of (hs _ (by decide +kernel)), List.forall_mem_cons.mpr ⟨va_Nc.of (hs _ (by decide +kernel)), List.forall_mem_cons.mpr ⟨va_Nc.of (hs _ (by decide +kernel)), fun _ h => absurd h List.not_mem_nil⟩⟩⟩
set_option maxRecDepth 100000 in
theorem kn_start {s : State} {b : Nat} (hts : ∀ w ∈ lw_tbl, w.before #[Value.ref b] s = true) : ∃ (D : va_G) (cI cQ : ClassId), va_K D vwCl (tyl cI cQ) s ∧ NWs s ∧ va_AO RX2 s := by
  have T : ∀ w ∈ tables_1, w.before #[Value.ref b] s = true := fun w hw => hts w (List.mem_append_right _ hw)
  have G : ∀ w ∈ lw_good, w.before #[Value.ref b] s = true := fun w hw => hts w (List.mem_filter.mp hw).1
  obtain ⟨c0, i0, k0⟩ := u_known (C := RX0) (T := TX0) (N := 4) (n := 4) G hin_0 (T (.instantiable RX0 4) (mt1 175 rfl))
  obtain ⟨c1, i1, k1⟩ := u_known (C := RX1) (T := TX1) (N := 7) (n := 7) G hin_1 (T (.instantiable RX1 7) (mt1 138 rfl))
  obtain ⟨c2, i2, k2⟩ := u_known (C := RX2) (T := TX2) (N := 5) (n := 5) G hin_2 (T (.instantiable RX2 5) (mt1 224 rfl))
  obtain ⟨c3, i3, k3⟩ := u_known (C := RX3) (T := TX3) (N := 13) (n := 13) G hin_3 (T (.instantiable RX3 13) (mt1 28 rfl))
  obtain ⟨c4, i4, k4⟩ := u_known (C := RX4) (T := TX4) (N := 9) (n := 9) G hin_4 (T (.instantiable RX4 9) (mt1 104 rfl))
  obtain ⟨c5, i5, k5⟩ := u_known (C := RX5) (T := TX5) (N := 7) (n := 7) G hin_5 (T (.instantiable RX5 7) (mt1 167 rfl))
  obtain ⟨c6, i6, k6⟩ := u_known (C := RX6) (T := TX6) (N := 8) (n := 8) G hin_6 (T (.instantiable RX6 8) (mt1 20 rfl))
  obtain ⟨c7, i7, k7⟩ := u_known (C := RX7) (T := TX7) (N := 40) (n := 40) G hin_7 (T (.instantiable RX7 40) (mt5 63 rfl))
  obtain ⟨cI, kI, compI, f1, f2, f3⟩ := Cond.arrayClass_spec (T (.arrayClass .int) (mt1 102 rfl))
  have hO : va_AO RX2 s := va_AO.of (T (.arrayOver (.object RX2)) (mt1 223 rfl))
  obtain ⟨compQ, cQ, kQ, g1, -, g2, g3, g4⟩ := Cond.arrayOver_spec (va_AO.use (A := #[]) hO)
  refine ⟨(fun k => if k = 0 then c0 else if k = 1 then c1 else if k = 2 then c2 else if k = 3 then c3 else if k = 4 then c4 else if k = 5 then c5 else if k = 6 then c6 else c7, fun k => if k = 0 then i0 else if k = 1 then i1 else if k = 2 then i2 else if k = 3 then i3 else if k = 4 then i4 else if k = 5 then i5 else if k = 6 then i6 else i7), cI, cQ, ⟨fun k q hq => ?_, fun k q hq => ?_⟩, fun w hw => ?_, hO⟩
  · match k, hq with
    | 0, hq => cases hq; exact k0
    | 1, hq => cases hq; exact k1
    | 2, hq => cases hq; exact k2
    | 3, hq => cases hq; exact k3
    | 4, hq => cases hq; exact k4
    | 5, hq => cases hq; exact k5
    | 6, hq => cases hq; exact k6
    | 7, hq => cases hq; exact k7
    | k + 8, hq => exact absurd (List.getElem?_eq_some_iff.mp hq).1 (by show ¬ k + 8 < 8; omega)
  · match k, hq with
    | 0, hq => cases hq; exact ⟨fun n z => ⟨fun k h => (by cases h), kI, f2, compI, f3⟩, f1⟩
    | 1, hq => cases hq; exact ⟨fun n z => ⟨fun k h => (by cases h), kQ, g2, compQ, g3⟩, kQ, compQ, g2, g3, g1, g4⟩
    | k + 2, hq => exact absurd (List.getElem?_eq_some_iff.mp hq).1 (by show ¬ k + 2 < 2; omega)
  · have h1 := hts _ (lw_nest_mem hw)
    rcases lw_nest_is hw with ⟨a, i, x, k, rfl⟩ | ⟨a, i, b, n, d, k, rfl⟩ <;> exact va_Nw.of rfl h1
set_option maxHeartbeats 4000000 in
set_option maxRecDepth 100000 in
/-- YOUR PART: from the entry, for every script of at most 3072 ints, the law comes to its end with true ('hflags': the launch's flags, for a law that throws: no stack traces) -/
theorem whole_start {p : Program} {e : Env} {s : State} {m : MethodId} {below : List Frame} {meth : Method} {c : Code} (l : Launch) (hflags : l.flags = flags0) {b L : Nat} {xs : Nat → Int32} (hL : L ≤ 3072) (C0 : lw_At p s m meth c b L xs) : W p l e room_1 s m #[Value.ref b] below meth c s.heap [] 0 0 (lw_Z below #[Value.ref b] s) (entryFrame m ([Value.ref b] : List Value).toArray 8) := by
  have hst : l.stackTraces = false := by unfold Launch.stackTraces; rw [hflags]; decide +kernel
  obtain ⟨hx, hb, hr, hml, hown, hts, hX, hbl, hlocks, hgv⟩ := id C0
  obtain ⟨D, cI, cQ, hK, hN, hO⟩ := kn_start hts
  have hXE := xe_start hts hgv
  have X : Ci p s m #[Value.ref b] meth c code 8 R_law D cI cQ (lA s) := ⟨hx, hb, hml, hlocks, hown, fun w hw => hts w (List.mem_filter.mp hw).1, hK, hN, hO, fun q h => h⟩
  have hS : va_S (lA s) s.heap s.heap [] := va_S.rf
  have hP : va_P D vwCl [] s.heap := fun k q h => by simp at h
  have hD : va_D (lA s) [] := ⟨fun i j p q h => by simp at h, fun k q h => by simp at h⟩
  have hl := lv_entry ([.ref b]) (n := 8) (Nat.le_of_ble_eq_true rfl)
  rw [lg_entry_eq]
  generalize (lg_sl ([.ref b]) ++ List.replicate (8 - (lg_sl ([.ref b])).length) Slot.unset).toArray = ls at hl ⊢
  have hl : lv_has ls 8 [(0, .ref b)] := hl
  refine ci_new X (ci := 6) rfl (ck_6 l) tyX6 tyX6_ok (by decide +kernel) (gd_t (mt1 19 rfl) rfl) (gd_t (mt1 20 rfl) rfl) (gd_t (mt1 1 rfl) rfl) (gd_t (mt1 23 rfl) rfl) (gd_t (mt1 22 rfl) rfl) (Or.inl (gd_t (mt1 21 rfl) rfl)) ⟨by decide, by decide⟩ ⟨Nat.le_of_ble_eq_true rfl, Nat.le_of_ble_eq_true rfl⟩ hP hD hS hl.1 (Nat.le_of_ble_eq_true rfl) (Nat.le_of_ble_eq_true rfl) (Nat.le_of_ble_eq_true rfl) (show decode code 0 = .ok (.new 8, 3) by decide +kernel) (show decode code 3 = .ok (.dup, 1) by decide +kernel) (show decode code 4 = .ok (.invokespecial 17, 3) by decide +kernel) fun h6 β H locs hP hD hS => ?_
  rw [List.nil_append] at hP hD
  refine lv_astore_n (lv' := [(1, .ref h6), (0, .ref b)]) hx hb (show decode code 7 = .ok (.astore_n 1, 1) by decide +kernel) rfl hl (by decide) rfl (fun ls hl => ?_)
  refine ci_new X (ci := 7) rfl (ck_7 l) tyX7 tyX7_ok (by decide +kernel) (gd_t (mt5 62 rfl) rfl) (gd_t (mt5 63 rfl) rfl) (gd_t (mt1 8 rfl) rfl) (gd_t (mt5 66 rfl) rfl) (gd_t (mt5 65 rfl) rfl) (Or.inl (gd_t (mt5 64 rfl) rfl)) ⟨by decide, by decide⟩ ⟨Nat.le_of_ble_eq_true rfl, Nat.le_of_ble_eq_true rfl⟩ hP hD hS hl.1 (Nat.le_of_ble_eq_true rfl) (Nat.le_of_ble_eq_true rfl) (Nat.le_of_ble_eq_true rfl) (show decode code 8 = .ok (.new 18, 3) by decide +kernel) (show decode code 11 = .ok (.dup, 1) by decide +kernel) (show decode code 12 = .ok (.invokespecial 20, 3) by decide +kernel) fun h7 γ H locs hP hD hS => ?_
  refine lv_astore_n (lv' := [(2, .ref h7), (1, .ref h6), (0, .ref b)]) hx hb (show decode code 15 = .ok (.astore_n 2, 1) by decide +kernel) rfl hl (by decide) rfl (fun ls hl => ?_)
  have e0 : R_6 cI cQ h6 β ++ R_7 cI cQ h7 γ = WLf cI cQ h6 β h7 γ := WL_eq cI cQ h6 β h7 γ
  rw [e0] at hP hD
  have hP2 : va_P D vwCl (WS cI cQ (al0 h6 β h7 γ) sg0) H := wl_P hP
  have hD2 : va_D (lA s) (WS cI cQ (al0 h6 β h7 γ) sg0) := wl_D hD
  clear hP hD e0
  have a45 : al0 h6 β h7 γ 45 = h6 := rfl
  have a85 : al0 h6 β h7 γ 85 = h7 := rfl
  generalize al0 h6 β h7 γ = α at hP2 hD2 a45 a85
  subst a45
  subst a85
  refine lv_iconst (v := 1) hx hb (show decode code 16 = .ok (.iconst 1, 1) by decide +kernel) (by decide) ?_
  refine va_newa (ty := .long) (N' := 1) (a0 := (1, .inr (.inl (fun _ => (0 : Int64))))) hx hb (hts _ (List.mem_append_right _ (mt7 81 rfl)) : (Cond.arrayClass (newarray.typeOf .long)).before #[Value.ref b] s = true) rfl hK hP2 hD2 hS (fun q h => h) (fun _ => rfl) (by decide) (by decide) (by decide) (Nat.le_of_ble_eq_true rfl) (Nat.le_of_ble_eq_true rfl) (show decode code 17 = .ok (.newarray .long, 2) by decide +kernel) fun qo cJ H1 hK1 hP1 hD1 hS1 => ?_
  refine lv_astore_n (lv' := [(3, .ref qo), (2, .ref (α 85)), (1, .ref (α 45)), (0, .ref b)]) hx hb (show decode code 19 = .ok (.astore_n 3, 1) by decide +kernel) rfl hl (by decide) rfl (fun ls hl => ?_)
  refine lv_iconst (v := 0) hx hb (show decode code 20 = .ok (.iconst 0, 1) by decide +kernel) (by decide) ?_
  refine lv_istore (lv' := [(4, .int 0), (3, .ref qo), (2, .ref (α 85)), (1, .ref (α 45)), (0, .ref b)]) hx hb (show decode code 21 = .ok (.istore 4, 2) by decide +kernel) hl (by decide) rfl (fun ls hl => ?_)
  have hPs : va_P D vwCl (WS cI cQ α sg0) H1 := fun k x9 hx9 => hP1 k x9 (by rw [List.getElem?_append_left (List.getElem?_eq_some_iff.mp hx9).1]; exact hx9)
  have hPo : va_P D vwCl (oW qo cJ (fun _ => 0)) H1 := fun k x9 hx9 => hP1 (108 + k) x9 (by rw [List.getElem?_append_right (by rw [WS_len]; omega), WS_len, show 108 + k - 108 = k by omega]; exact hx9)
  have hlast : (WS cI cQ α sg0 ++ oW qo cJ (fun _ => 0))[108]? = some (qo, .inl (cJ, 1, .inr (.inl (fun _ => (0 : Int64))))) := by rw [List.getElem?_append_right (by rw [WS_len]; exact Nat.le_refl _), WS_len]; rfl
  have hqs : s.heap.size ≤ qo := hD1.2 108 _ hlast
  have hne : ∀ k, k < 108 → α k ≠ qo := fun k hk q => by
    have h1 : (WS cI cQ α sg0 ++ oW qo cJ (fun _ => 0))[k]? = some (α k, wcell cI cQ α sg0 k) := by rw [List.getElem?_append_left (by rw [WS_len]; exact hk), WS_get hk]
    have h2 := hD1.1 k 108 _ _ h1 hlast q
    omega
  have XL : Lc p s m meth c b L xs D cI cQ cJ α qo := ⟨C0, hK, hN, va_D_ws hD2, hne, hqs, hK1.sub (tys' := [(cJ, .long)]) [2] rfl, hL⟩
  exact law_loop XL (lcs_36 XL hst hXE) (lcs_39 XL hst hXE) (L + 6) 0 (by omega) (by omega) H1 locs _ _ ls (fun _ => 0) sg0 T00 T00 (Nat.le_of_ble_eq_true rfl) (Nat.le_of_ble_eq_true rfl) Inv_sg0 RS_sg0 hPs hPo hS1 (lv_sub hl [4, 3, 2, 1, 0] rfl)
