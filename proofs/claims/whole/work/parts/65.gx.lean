/-! CALLS of the machine's methods out of frames that aren't the machine's: own code cc, own words lw_good -/
def Gx (p : Program) (s : State) (m : MethodId) (args : Array Value) (meth : Method) (c : Code) (cc : ByteArray) (nL : Nat) (own : String) (D : va_G) (cI cQ : ClassId) (α : Nat → Nat) (A : Nat → Prop) : Prop :=
  CallFix p m c cc nL s args lw_good own ∧ va_K D vwCl (tyl cI cQ) s ∧ NWs s ∧ (∀ q : Nat, s.heap.size ≤ q → A q) ∧ va_D A (WS cI cQ α (fun _ _ => 0))
section GXS
variable {p : Program} {l : Launch} {e : Env} {R : Room} {s : State} {m : MethodId} {args : Array Value} {below : List Frame} {meth : Method} {c : Code} {cc : ByteArray} {nL : Nat} {own : String} {D : va_G} {cI cQ : ClassId} {α : Nat → Nat} {A : Nat → Prop} {Q : State → Prop} {pc cells slots : Nat} {H : Heap} {locs : List Loc} {ls : Array Slot} {rest : List Value} {σ : Sg}
theorem gx_free (X : Gx p s m args meth c cc nL own D cI cQ α A) (hS : va_S A s.heap H locs) : ∀ q, va_A (WS cI cQ α σ) H.size q → A q := fun q h => by
  rcases h with ⟨k, e, hk⟩ | h
  · exact (va_D_ws (σ' := σ) X.2.2.2.2).2 k (q, e) hk
  · exact X.2.2.2.1 q (Nat.le_trans hS.1 h)
theorem gx_call (X : Gx p s m args meth c cc nL own D cI cQ α A) {mid k : Nat} {M : Mi} {as : List Av} {K : Kt} (hM : MT[mid]? = some M) (hlink : Cond.methodLink own k M.2.2.2.1 ∈ lw_good ∨ Cond.methodLinkNest own k M.2.2.2.1 RX6 ∈ lw_nest) (hrk : M.2.1 = 1 ∨ M.2.1 = 2) (hc : wpCall 20 mid as σ K) (rA : RL as) (rσ : RS σ)
    (hkind : (M.2.2.2.2.2.2.2.2 = 0 ∧ decode cc pc = .ok (.invokevirtual k, 3) ∧ ∃ a as', as = aR a :: as' ∧ CLS a = M.2.2.1 ∧ as.length = M.2.2.2.2.2.2.2.1) ∨ (M.2.2.2.2.2.2.2.2 = 1 ∧ decode cc pc = .ok (.invokestatic k, 3) ∧ as.length = M.2.2.2.2.2.2.2.1))
    (hP : va_P D vwCl (WS cI cQ α σ) H) (hS : va_S A s.heap H locs) (hl : ls.size = nL) (hrest : (rest.map fun v => v.category).sum ≤ 8) (hcs : cells ≤ R.cells ∧ slots ≤ R.slots) (hR : 21 ≤ R.frames ∧ 900 ≤ R.locals)
    (kk : ∀ (r : Int32) (σ1 : Sg) (H1 : Heap) (locs1 : List Loc), K r.toInt σ1 → RS σ1 → va_P D vwCl (WS cI cQ α σ1) H1 → va_S A s.heap H1 locs1 → W p l e R s m args below meth c H1 locs1 cells slots Q (F0 m (pc + 3) ls (.int r :: rest))) :
    W p l e R s m args below meth c H locs cells slots Q (F0 m pc ls ((as.map (tr α)).reverse ++ rest)) := by
  obtain ⟨hFix, hK, hN, hA, hDw⟩ := id X
  have hts := hFix.2.2.2.2
  obtain ⟨k1, k2, k3, k4, k5, k6, k7, k8, k8b, k9⟩ := MT_ok M (List.mem_of_getElem? hM)
  have hD0 : va_D (fun _ => True) (WS cI cQ α σ) := (va_D_ws hDw).weaken (fun _ _ _ _ => True.intro)
  have hMet := sound l 20 mid M as σ K hM hc rA rσ D cI cQ α H.size hD0
  have hG : GoodIn lw_good (wsA M) := wsA_good (MT_ok M (List.mem_of_getElem? hM))
  have hU : ∀ U : State, U.heap = H → s.WarmedH U.vm → va_Pc (as.map (tr α)) (fun U => U.heap.size = H.size ∧ Wd D cI cQ α σ U) (as.map (tr α)).toArray U := fun U hU hW => ⟨rfl, by rw [hU], by rw [hU]; exact hP, va_K.moved hW.alike hK, NWs.warm hW hN⟩
  have hF := gx_free X hS (σ := σ)
  have hR2 : (rmD 20).frames + 1 ≤ R.frames ∧ 8 + (M.2.2.2.2.2.1 + 11) + (rmD 20).locals ≤ R.locals := ⟨hR.1, by show 8 + (M.2.2.2.2.2.1 + 11) + 40 * 20 ≤ _; omega⟩
  have fin : ∀ st0 : List Value, va_Run p l e R s m args below meth c H locs cells slots 0 0 (F0 m pc ls st0) rest (QM M.2.1 K D cI cQ α (va_A (WS cI cQ α σ) H.size) (as.map (tr α)).toArray) (va_A (WS cI cQ α σ) H.size) → W p l e R s m args below meth c H locs cells slots Q (F0 m pc ls st0) := by
    intro st0 hrun
    rcases hrk with h1 | h1
    · rw [h1] at hrun
      exact va_calli (a := (as.map (tr α)).toArray) (post := fun (r : Int32) (u : Sg) => K r.toInt u ∧ RS u) (B := fun u t => Wd D cI cQ α u t) hrun hS (fun q _ h => hF q h) hF (fun r u t H1 locs1 ht hvm hw hB hz1 hk1 hS1 => kk r u H1 locs1 hw.1 hw.2 (by rw [← ht]; exact hB.1) hS1)
    · rw [h1] at hrun
      exact va_calli (a := (as.map (tr α)).toArray) (post := fun (r : Int32) (u : Sg) => K r.toInt u ∧ RS u) (B := fun u t => Wd D cI cQ α u t) hrun hS (fun q _ h => hF q h) hF (fun r u t H1 locs1 ht hvm hw hB hz1 hk1 hS1 => kk r u H1 locs1 hw.1 hw.2 (by rw [← ht]; exact hB.1) hS1)
  refine fin _ ?_
  rcases hkind with ⟨hst, hdg, a, as', rfl, hca, hal⟩ | ⟨hst, hdg, hal⟩
  · rcases k9 with ⟨-, c8, cin, csel⟩ | ⟨q, -⟩
    · have hn : (as'.map (tr α)).length = M.2.2.2.2.2.2.2.1 - 1 := by
        rw [List.length_map, ← hal, List.length_cons]; omega
      have hpar : (parseMethodDescriptor M.2.2.2.1.desc).map (fun d => d.parameters.length) = some (M.2.2.2.2.2.2.2.1 - 1) := by
        have h9 := k4.2.2
        rw [hst] at h9
        cases hp : parseMethodDescriptor M.2.2.2.1.desc with
        | none => rw [hp] at h9; cases h9
        | some d0 =>
          rw [hp] at h9
          simp only [Option.map_some, Option.some.injEq] at h9 ⊢
          omega
      have hstk : (F0 m pc ls (((aR a :: as').map (tr α)).reverse ++ rest)).stack = (as'.map (tr α)).reverse ++ .ref (α a) :: rest := by
        show ((aR a :: as').map (tr α)).reverse ++ rest = _
        rw [List.map_cons, List.reverse_cons, List.append_assoc]
        rfl
      obtain ⟨C, T, N, hw⟩ : ∃ C T N, vwCl[M.2.2.1]? = some (C, T, N) := vw_ex c8
      have hFv := vwf_of hw
      have hrec : ∃ cell : Cell, H[α a]? = some cell ∧ cell.vm.isStatics = false ∧ s.vm.findClass M.2.2.2.1.cls = some cell.cls := by
        have := va_recv hK hP hw (q0 := a) (a := α a) (fs := (List.range (NFl.getD M.2.2.1 0)).map (cellV α σ M.2.2.1 a)) (by rw [WS_get (CLS_lt (by omega)), wcell_obj hca c8])
        rw [k6, ← hFv.2.2.1]
        exact this
      have hpre : PreV s H M.2.2.2.1.cls (α a) (va_Pc ((aR a :: as').map (tr α)) (fun U => U.heap.size = H.size ∧ Wd D cI cQ α σ U)) (as'.map (tr α)) := ⟨Pc_blind, hrec, hU⟩
      rcases hlink with hlink | hlink
      · exact va_runV hFix hMet (cwV _ hts (fun w hw => by
          rcases List.mem_append.mp hw with hw | hw
          · rcases List.mem_cons.mp hw with rfl | hw
            · exact lw_goodIn _ hlink
            · rcases List.mem_cons.mp hw with rfl | hw
              · exact lw_goodIn _ cin
              · rcases List.mem_cons.mp hw with rfl | hw
                · exact lw_goodIn _ csel
                · rcases List.mem_cons.mp hw with rfl | hw
                  · exact lw_goodIn _ k3
                  · cases hw
          · exact hG w hw) rfl rfl rfl ⟨rfl, k4.1, k4.2.1, hpar⟩ hR2) hpre rfl hn hl hstk (lv_room hrest) hdg hcs
      · exact va_runVN hFix hMet ⟨va_cnB _ hts hG rfl rfl rfl (hN _ hlink) (hts _ k3) ⟨k4.1, k4.2.1, hpar⟩ hR2, hts _ cin, hts _ csel⟩ hpre rfl hn hl hstk (lv_room hrest) hdg hcs
    · rw [hst] at q; cases q
  · rcases k9 with ⟨q, -⟩ | ⟨-, cst⟩
    · rw [hst] at q; cases q
    · have hn : (as.map (tr α)).length = M.2.2.2.2.2.2.2.1 := by rw [List.length_map, hal]
      have hpar : (parseMethodDescriptor M.2.2.2.1.desc).map (fun d => d.parameters.length) = some M.2.2.2.2.2.2.2.1 := by
        have h9 := k4.2.2
        rw [hst] at h9
        cases hp : parseMethodDescriptor M.2.2.2.1.desc with
        | none => rw [hp] at h9; cases h9
        | some d0 =>
          rw [hp] at h9
          simp only [Option.map_some, Option.some.injEq] at h9 ⊢
          omega
      have hpre : PreS s H (va_Pc (as.map (tr α)) (fun U => U.heap.size = H.size ∧ Wd D cI cQ α σ U)) (as.map (tr α)) := ⟨Pc_blind, hU⟩
      rcases hlink with hlink | hlink
      · exact va_runS hFix hMet (va_cwS _ hts (fun w hw => by
          rcases List.mem_append.mp hw with hw | hw
          · rcases List.mem_cons.mp hw with rfl | hw
            · exact lw_goodIn _ hlink
            · rcases List.mem_cons.mp hw with rfl | hw
              · exact lw_goodIn _ cst
              · rcases List.mem_cons.mp hw with rfl | hw
                · exact lw_goodIn _ k3
                · cases hw
          · exact hG w hw) rfl rfl rfl ⟨k4.1, k4.2.1, hpar⟩ hR2) hpre rfl hn hl rfl (lv_room hrest) hdg hcs
      · exact va_runSN hFix hMet ⟨va_cnB _ hts hG rfl rfl rfl (hN _ hlink) (hts _ k3) ⟨k4.1, k4.2.1, hpar⟩ hR2, hts _ cst, True.intro⟩ hpre rfl hn hl rfl (lv_room hrest) hdg hcs
end GXS
