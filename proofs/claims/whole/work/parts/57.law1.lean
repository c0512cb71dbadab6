/-! THE CLAIM OUT OF ONE WALK OF THE LAW'S BODY. Your part is whole_start (and what it stands on); all else here is the same for every law, but numbers. -/
def R_law : String := "OneEachLaw"
def lw_P (b : Addr) (xs : List Int32) (args : Array Value) (s : State) : Prop := args = #[.ref b] ∧ s.IntsAt b xs ∧ xs.length ≤ 3072 ∧ (Jvm.Cond.and given_1 narrow_1).before args s = true
def lw_Q (_ : Array Value) (s : State) (o : Outcome) (t : State) : Prop := o = .returned (some (.int 1)) ∧ Framed s o t [] 601024 7293034
def lw_Z (below : List Frame) (a : Array Value) (s : State) : State → Prop := fun t => ∃ o, t.status = .running ∧ Ended t below o ∧ lw_Q a s o t
/-- the law's own end, with 1 on the stack, nothing written that was there before, its room as the claim has it -/
theorem lw_ret {p : Program} {l : Launch} {e : Env} {s : State} {m : MethodId} {below : List Frame} {meth : Method} {c : Code} {b : Nat} (hx : p.tables.exec = Jvm.exec) (hb : c.code = code) (hr : meth.sig.returnType = ret) (hlocks : meth.locks = false) {pc : Nat} {H : Heap} {ls : Array Slot} (hdg : decode code pc = .ok (.ireturn, 1)) : W p l e room_1 s m #[Value.ref b] below meth c H [] 601024 7293034 (lw_Z below #[Value.ref b] s) (F0 m pc ls [.int 1]) := by
  intro T hT X
  obtain ⟨fs, hret, hrun, hended, hW, hframe⟩ := X.leave (v := some (.int 1)) (hlocks := hlocks) (fun h => by rw [hr] at h; cases h)
  have hmeth' : T.vm.method? m = some meth := X.method'
  refine ⟨T.setFrames fs, ?_, .returned (some (.int 1)), hrun, hended, rfl, ⟨_, rfl⟩, hW, hframe⟩
  jvm_step X.here [X.here.top, hx, hb, hdg, hmeth', hr, ret, narrow_b1]
  (try refine ⟨rfl, ?_⟩); (try refine ⟨rfl, ?_⟩)
  first | (intro acts; rw [hret _ acts rfl rfl rfl]) | rw [hret _ _ rfl rfl rfl]
  exact Steps.refl _
/-- what holds at the law's entry: the machine, the code, the tables' words (any of lw_tbl by 'hts w (by decide +kernel)'), the script of L ints xs at the cell b, what the Statement gives of the start (any of its parts by flat_of_before) -/
def lw_At (p : Program) (s : State) (m : MethodId) (meth : Method) (c : Code) (b L : Nat) (xs : Nat → Int32) : Prop :=
  p.tables.exec = Jvm.exec ∧ c.code = code ∧ meth.sig.returnType = ret ∧ c.maxLocals = 8 ∧ s.vm.findClass R_law = some m.cls ∧ (∀ w ∈ lw_tbl, w.before #[Value.ref b] s = true) ∧ va_X b L xs s s.heap ∧ b < s.heap.size ∧ meth.locks = false ∧ (Jvm.Cond.and given_1 narrow_1).before #[Value.ref b] s = true
/-! THE LAW'S FRAME: calls of the machine's methods out of it -/
def Lc (p : Program) (s : State) (m : MethodId) (meth : Method) (c : Code) (b L : Nat) (xs : Nat → Int32) (D : va_G) (cI cQ cJ : ClassId) (α : Nat → Nat) (qo : Nat) : Prop :=
  lw_At p s m meth c b L xs ∧ va_K D vwCl (tyl cI cQ) s ∧ NWs s ∧ va_D (fun q : Nat => s.heap.size ≤ q) (WS cI cQ α (fun _ _ => 0)) ∧ (∀ k, k < 108 → α k ≠ qo) ∧ s.heap.size ≤ qo ∧ va_K D vwCl [(cJ, .long)] s ∧ L ≤ 3072
abbrev oW (qo : Nat) (cJ : ClassId) (o : Nat → Int64) : va_W := [(qo, .inl (cJ, 1, .inr (.inl o)))]
theorem i32_ge {x y : Int32} : x ≤ y ↔ x.toInt ≤ y.toInt := Int32.le_iff_toInt_le
section LAWC
variable {p : Program} {l : Launch} {e : Env} {s : State} {m : MethodId} {below : List Frame} {meth : Method} {c : Code} {b L : Nat} {xs : Nat → Int32} {D : va_G} {cI cQ cJ : ClassId} {α : Nat → Nat} {qo : Nat} {H : Heap} {locs : List Loc} {cells slots : Nat} {Q : State → Prop} {pc : Nat} {ls : Array Slot} {rest : List Value} {o : Nat → Int64} {σ : Sg}
abbrev lA (s : State) : Nat → Prop := fun q : Nat => s.heap.size ≤ q
theorem lc_apart (X : Lc p s m meth c b L xs D cI cQ cJ α qo) {sz : Nat} : qo < sz → ¬ va_A (WS cI cQ α σ) sz qo := fun hz h => by
  rcases h with ⟨k, e, hk⟩ | h
  · have h1 : k < 108 := by have := (List.getElem?_eq_some_iff.mp hk).1; rwa [WS_len] at this
    rw [WS_get h1] at hk
    exact X.2.2.2.2.1 k h1 (congrArg (·.1) (Option.some.inj hk))
  · omega
theorem lc_free (X : Lc p s m meth c b L xs D cI cQ cJ α qo) (hS : va_S (lA s) s.heap H locs) : ∀ q, va_A (WS cI cQ α σ) H.size q → lA s q := fun q h => by
  rcases h with ⟨k, e, hk⟩ | h
  · exact (va_D_ws (σ' := σ) X.2.2.2.1).2 k (q, e) hk
  · exact Nat.le_trans hS.1 h
theorem lc_call (X : Lc p s m meth c b L xs D cI cQ cJ α qo) {mid k a : Nat} {M : Mi} {as : List Av} {K : Kt} (hM : MT[mid]? = some M) (hk : Cond.methodLink R_law k M.2.2.2.1 ∈ lw_tbl) (hrk : M.2.1 = 1 ∨ M.2.1 = 2) (hst : M.2.2.2.2.2.2.2.2 = 0) (hca : CLS a = M.2.2.1) (hal : as.length + 1 = M.2.2.2.2.2.2.2.1) (hc : wpCall 20 mid (aR a :: as) σ K) (rA : RL as) (rσ : RS σ)
    (hP : va_P D vwCl (WS cI cQ α σ) H) (hO : va_P D vwCl (oW qo cJ o) H) (hS : va_S (lA s) s.heap H locs) (hl : ls.size = 8) (hrest : (rest.map fun v => v.category).sum ≤ 8) (hcs : cells ≤ room_1.cells ∧ slots ≤ room_1.slots) (hdg : decode code pc = .ok (.invokevirtual k, 3))
    (kk : ∀ (r : Int32) (σ1 : Sg) (H1 : Heap) (locs1 : List Loc), K r.toInt σ1 → RS σ1 → va_P D vwCl (WS cI cQ α σ1) H1 → va_P D vwCl (oW qo cJ o) H1 → va_S (lA s) s.heap H1 locs1 → W p l e room_1 s m #[Value.ref b] below meth c H1 locs1 cells slots Q (F0 m (pc + 3) ls (.int r :: rest))) :
    W p l e room_1 s m #[Value.ref b] below meth c H locs cells slots Q (F0 m pc ls ((as.map (tr α)).reverse ++ .ref (α a) :: rest)) := by
  obtain ⟨⟨hx, hb, hr, hml, hown, hts, hX, hbl, hlocks, hgv⟩, hK, hN, hDw, hqo, hqs, hKJ, hL⟩ := id X
  have hgd : ∀ w ∈ lw_good, w.before #[Value.ref b] s = true := fun w hw => hts w (List.mem_filter.mp hw).1
  obtain ⟨k1, k2, k3, k4, k5, k6, k7, k8, k8b, k9⟩ := MT_ok M (List.mem_of_getElem? hM)
  have hD0 : va_D (fun _ => True) (WS cI cQ α σ) := (va_D_ws hDw).weaken (fun _ _ _ _ => True.intro)
  have hMet := sound l 20 mid M (aR a :: as) σ K hM hc (RL_cons (show Rv (aR a) from True.intro) rA) rσ D cI cQ α H.size hD0
  have hFix : CallFix p m c code 8 s #[Value.ref b] lw_tbl R_law := ⟨hx, hb, hml, hown, hts⟩
  have hG : GoodIn lw_tbl (wsA M) := fun w hw => by
    rcases List.mem_cons.mp hw with rfl | hw
    · exact lw_goodTbl _ k2
    · exact lw_goodTbl w hw
  have hU : ∀ U : State, U.heap = H → s.WarmedH U.vm → va_Pc ((aR a :: as).map (tr α)) (fun U => U.heap.size = H.size ∧ Wd D cI cQ α σ U) ((aR a :: as).map (tr α)).toArray U := fun U hU hW => ⟨rfl, by rw [hU], by rw [hU]; exact hP, va_K.moved hW.alike hK, NWs.warm hW hN⟩
  rcases k9 with ⟨-, c8, cin, csel⟩ | ⟨q, -⟩
  · have hn : (as.map (tr α)).length = M.2.2.2.2.2.2.2.1 - 1 := by rw [List.length_map]; omega
    have hpar : (parseMethodDescriptor M.2.2.2.1.desc).map (fun d => d.parameters.length) = some (M.2.2.2.2.2.2.2.1 - 1) := by
      have h9 := k4.2.2
      rw [hst] at h9
      cases hp : parseMethodDescriptor M.2.2.2.1.desc with
      | none => rw [hp] at h9; cases h9
      | some d0 =>
        rw [hp] at h9
        simp only [Option.map_some, Option.some.injEq] at h9 ⊢
        omega
    obtain ⟨C, T, N, hw⟩ : ∃ C T N, vwCl[M.2.2.1]? = some (C, T, N) := vw_ex c8
    have hFv := vwf_of hw
    have hrec : ∃ cell : Cell, H[α a]? = some cell ∧ cell.vm.isStatics = false ∧ s.vm.findClass M.2.2.2.1.cls = some cell.cls := by
      have := va_recv hK hP hw (q0 := a) (a := α a) (fs := (List.range (NFl.getD M.2.2.1 0)).map (cellV α σ M.2.2.1 a)) (by rw [WS_get (CLS_lt (by omega)), wcell_obj hca c8])
      rw [k6, ← hFv.2.2.1]
      exact this
    have hpre : PreV s H M.2.2.2.1.cls (α a) (va_Pc ((aR a :: as).map (tr α)) (fun U => U.heap.size = H.size ∧ Wd D cI cQ α σ U)) (as.map (tr α)) := ⟨Pc_blind, hrec, hU⟩
    have hF := lc_free X hS (σ := σ)
    have hsh : ∀ rm' : Room, rm' = rmD 20 → rm'.frames + 1 ≤ room_1.frames ∧ 8 + (M.2.2.2.2.2.1 + 11) + rm'.locals ≤ room_1.locals := fun rm' q => by
      subst q
      exact ⟨by decide, Nat.le_trans (show 8 + (M.2.2.2.2.2.1 + 11) + (rmD 20).locals ≤ 8 + (20 + 11) + 800 by show 8 + (M.2.2.2.2.2.1 + 11) + 40 * 20 ≤ _; omega) (by decide)⟩
    have hrun := va_runV (R := room_1) (e := e) (below := below) (meth := meth) (locs := locs) (cells := cells) (slots := slots) (g := F0 m pc ls ((as.map (tr α)).reverse ++ .ref (α a) :: rest)) (rest := rest) hFix hMet (cwV (M.2.2.2.2.2.2.2.1 - 1) hts (fun w hw => by
      rcases List.mem_append.mp hw with hw | hw
      · rcases List.mem_cons.mp hw with rfl | hw
        · exact ⟨hk, Or.inl rfl⟩
        · rcases List.mem_cons.mp hw with rfl | hw
          · exact lw_goodTbl _ cin
          · rcases List.mem_cons.mp hw with rfl | hw
            · exact lw_goodTbl _ csel
            · rcases List.mem_cons.mp hw with rfl | hw
              · exact lw_goodTbl _ k3
              · cases hw
      · exact hG w hw) rfl rfl rfl ⟨rfl, k4.1, k4.2.1, hpar⟩ (hsh _ rfl)) hpre rfl hn hl rfl (lv_room hrest) hdg hcs
    have keepO : ∀ H1 : Heap, (∀ q : Nat, q < H.size → ¬ va_A (WS cI cQ α σ) H.size q → H1[q]? = H[q]?) → va_P D vwCl (oW qo cJ o) H1 := fun H1 hk1 => hO.kept (fun k x hx => by
      have h1 : k < 1 := (List.getElem?_eq_some_iff.mp hx).1
      have h2 := (hO k x hx).lt
      rw [show k = 0 by omega] at hx
      cases hx
      exact hk1 _ h2 (lc_apart X h2))
    rcases hrk with h1 | h1
    · rw [h1] at hrun
      exact va_calli (a := (Value.ref (α a) :: as.map (tr α)).toArray) (post := fun (r : Int32) (u : Sg) => K r.toInt u ∧ RS u) (B := fun u t => Wd D cI cQ α u t) hrun hS (fun q _ h => hF q h) hF (fun r u t H1 locs1 ht hvm hw hB hz1 hk1 hS1 => kk r u H1 locs1 hw.1 hw.2 (by rw [← ht]; exact hB.1) (keepO H1 hk1) hS1)
    · rw [h1] at hrun
      exact va_calli (a := (Value.ref (α a) :: as.map (tr α)).toArray) (post := fun (r : Int32) (u : Sg) => K r.toInt u ∧ RS u) (B := fun u t => Wd D cI cQ α u t) hrun hS (fun q _ h => hF q h) hF (fun r u t H1 locs1 ht hvm hw hB hz1 hk1 hS1 => kk r u H1 locs1 hw.1 hw.2 (by rw [← ht]; exact hB.1) (keepO H1 hk1) hS1)
  · rw [hst] at q; cases q
/-- one int of the script, by its place behind i -/
theorem lc_arg (X : Lc p s m meth c b L xs D cI cQ cJ α qo) {i k : Nat} {v : Int} (hS : va_S (lA s) s.heap H locs) (hi : i + k < L) (hb0 : ls[0]? = some (.val (.ref b))) (h4 : ls[4]? = some (.val (.int (nI i)))) (hv : Int32.ofInt v = nI k)
    (d0 : decode code pc = .ok (.aload_n 0, 1)) (d1 : decode code (pc + 1) = .ok (.iload 4, 2)) (d3 : decode code (pc + 3) = .ok (.iconst v, 1)) (d4 : decode code (pc + 4) = .ok (.iadd, 1)) (d5 : decode code (pc + 5) = .ok (.iaload, 1))
    (kk : W p l e room_1 s m #[Value.ref b] below meth c H locs cells slots Q (F0 m (pc + 6) ls (tr α (aI (xs (i + k)).toInt) :: rest))) : W p l e room_1 s m #[Value.ref b] below meth c H locs cells slots Q (F0 m pc ls rest) := by
  obtain ⟨⟨hx, hb, hr, hml, hown, hts, hX, hbl, hlocks, hgv⟩, hK, hN, hDw, hqo, hqs, hKJ, hL⟩ := X
  refine lv_aload_n hx hb d0 rfl hb0 ?_
  refine lv_iload hx hb d1 h4 ?_
  refine lv_iconst (v := nI k) hx hb d3 hv ?_
  refine lv_iadd hx hb d4 ?_
  have e1 : nI i + nI k = nI (i + k) := by
    show Int32.ofNat i + Int32.ofNat k = Int32.ofNat (i + k)
    rw [Int32.ofNat_add]
  rw [e1]
  refine va_sld hx hb hX hbl (Nat.not_le.mpr hbl) hS (show vp_in (nI (i + k)) L from vp_in_nI hi (by omega)) d5 ?_
  rw [nI_clamp (by omega)]
  rw [show tr α (aI (xs (i + k)).toInt) = .int (xs (i + k)) from by show Value.int (Int32.ofInt _) = _; rw [i32_ofto]] at kk
  exact kk
end LAWC
