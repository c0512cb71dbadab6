/-! CALLS, ANSWERS, and the whole: a frame that comes to K by the abstract machine comes to it by the machine -/
def rmD (d : Nat) : Room := { frames := d, cells := 0, slots := 0, locals := 40 * d }
def wsA (M : Mi) : List Cond := Cond.code M.2.2.2.1 M.2.2.2.2.1 M.2.2.2.2.2.1 M.2.2.2.2.2.2.1 :: lw_good
def CSound (l : Launch) (rm : Room) (C : Orc) : Prop := ∀ (mid : Nat) (M : Mi) (as : List Av) (σ : Sg) (K : Kt), MT[mid]? = some M → C mid as σ K → RL as → RS σ → ∀ (D : va_G) (cI cQ : ClassId) (α : Nat → Nat) (sz : Nat), va_D (fun _ => True) (WS cI cQ α σ) →
  Met l M.2.2.2.1 (wsA M) rm (va_Pc (as.map (tr α)) (fun U => U.heap.size = sz ∧ Wd D cI cQ α σ U)) (QM M.2.1 K D cI cQ α (va_A (WS cI cQ α σ) sz)) 0 0 (va_A (WS cI cQ α σ) sz)
theorem wsA_good {M : Mi} (h : MOK M) : GoodIn lw_good (wsA M) := fun w hw => by
  rcases List.mem_cons.mp hw with rfl | hw
  · exact ⟨h.2.1, Or.inl rfl⟩
  · exact lw_goodIn w hw
theorem vw_ex {ci : Nat} (h : ci < 8) : ∃ C T N, vwCl[ci]? = some (C, T, N) := ⟨_, _, _, List.getElem?_eq_getElem (l := vwCl) (i := ci) h⟩
section SND2
variable {p : Program} {l : Launch} {e : Env} {R : Room} {s : State} {m : MethodId} {args : Array Value} {below : List Frame} {meth : Method} {c : Code} {M : Mi} {D : va_G} {cI cQ : ClassId} {α : Nat → Nat} {A : Nat → Prop} {Q : State → Prop} {pc nx : Nat} {L S : List Av} {σ : Sg}
theorem Pc_blind {as : List Value} {sz : Nat} : FrameBlind (va_Pc as (fun U => U.heap.size = sz ∧ Wd D cI cQ α σ U)) := fun a U g mk q => by
  obtain ⟨q0, q1, qP, qK, qN⟩ := q
  exact ⟨q0, q1, qP, va_K.moved (u := U) (U := U.calling g mk a) (Vm.Alike.refl U.vm) qK, NWs.same (u := U) (U := U.calling g mk a) rfl qN⟩
theorem zs_free (X : Cx p s m args meth c M D cI cQ α A) {H : Heap} {locs : List Loc} (hS : va_S A s.heap H locs) : ∀ q, va_A (WS cI cQ α σ) H.size q → A q := fun q h => by
  rcases h with ⟨k, e, hk⟩ | h
  · exact (va_D_ws (σ' := σ) X.2.2.2.2.2.2.2.2.2.2.1).2 k (q, e) hk
  · exact X.2.2.2.2.2.2.2.2.2.1 q (Nat.le_trans hS.1 h)
/-- behind a call, by the kind of its answer -/
theorem zs_back {rk : Nat} {H : Heap} {locs : List Loc} {ls : Array Slot} {st0 : List Value} {a : Array Value} {S' : List Av} (X : Cx p s m args meth c M D cI cQ α A) (hrk : rk = 0 ∨ rk = 1 ∨ rk = 2 ∨ rk = 3) (hS : va_S A s.heap H locs) (hlen : L.length = M.2.2.2.2.2.1) (hl : lvR α ls L) (rL : RL L) (rS : RL S')
    (hr : va_Run p l e R s m args below meth c H locs 0 0 0 0 (F0 m pc ls st0) (S'.map (tr α)) (QM rk (pK (PW p l e R s m args below meth c M D cI cQ α A Q) (pc + 3) L S' rk) D cI cQ α (va_A (WS cI cQ α σ) H.size) a) (va_A (WS cI cQ α σ) H.size)) : W p l e R s m args below meth c H locs 0 0 Q (F0 m pc ls st0) := by
  have hF := zs_free X hS (σ := σ)
  rcases hrk with rfl | rfl | rfl | rfl
  · refine va_callv (a := a) (post := fun u : Sg => pK (PW p l e R s m args below meth c M D cI cQ α A Q) (pc + 3) L S' 0 0 u ∧ RS u) (B := fun u t => Wd D cI cQ α u t) hr hS (fun q _ h => hF q h) hF (fun u t H1 locs1 ht hvm hw hB hz1 hk1 hS1 => ?_)
    exact hw.1 hlen H1 locs1 ls (by rw [← ht]; exact hB.1) hS1 hl rL rS hw.2
  · refine va_calli (a := a) (post := fun (r : Int32) (u : Sg) => pK (PW p l e R s m args below meth c M D cI cQ α A Q) (pc + 3) L S' 1 r.toInt u ∧ RS u) (B := fun u t => Wd D cI cQ α u t) hr hS (fun q _ h => hF q h) hF (fun r u t H1 locs1 ht hvm hw hB hz1 hk1 hS1 => ?_)
    have go := hw.1 hlen H1 locs1 ls (by rw [← ht]; exact hB.1) hS1 hl rL (RL_cons (show R32 _ from i32_R r) rS) hw.2
    rw [show ((aI r.toInt :: S').map (tr α)) = .int (Int32.ofInt r.toInt) :: S'.map (tr α) from rfl, i32_ofto] at go
    exact go
  · refine va_calli (a := a) (post := fun (r : Int32) (u : Sg) => pK (PW p l e R s m args below meth c M D cI cQ α A Q) (pc + 3) L S' 2 r.toInt u ∧ RS u) (B := fun u t => Wd D cI cQ α u t) hr hS (fun q _ h => hF q h) hF (fun r u t H1 locs1 ht hvm hw hB hz1 hk1 hS1 => ?_)
    have go := hw.1 hlen H1 locs1 ls (by rw [← ht]; exact hB.1) hS1 hl rL (RL_cons (show R32 _ from i32_R r) rS) hw.2
    rw [show ((aI r.toInt :: S').map (tr α)) = .int (Int32.ofInt r.toInt) :: S'.map (tr α) from rfl, i32_ofto] at go
    exact go
  · refine va_calll (a := a) (post := fun (r : Int64) (u : Sg) => (pK (PW p l e R s m args below meth c M D cI cQ α A Q) (pc + 3) L S' 3 r.toInt u ∧ R32 r.toInt) ∧ RS u) (B := fun u t => Wd D cI cQ α u t) hr hS (fun q _ h => hF q h) hF (fun r u t H1 locs1 ht hvm hw hB hz1 hk1 hS1 => ?_)
    have go := hw.1.1 hlen H1 locs1 ls (by rw [← ht]; exact hB.1) hS1 hl rL (RL_cons (show R32 _ from hw.1.2) rS) hw.2
    rw [show ((aJ r.toInt :: S').map (tr α)) = .long (Int64.ofInt r.toInt) :: S'.map (tr α) from rfl, show Int64.ofInt r.toInt = r from Int64.ofInt_toInt r] at go
    exact go
theorem zs_call {C : Orc} {rm : Room} {k mid rk nest : Nat} {M' : Mi} {as S' : List Av} (hC : CSound l rm C) (X : Cx p s m args meth c M D cI cQ α A) (hrm : rm.cells = 0 ∧ rm.slots = 0) (hR : rm.frames + 1 ≤ R.frames ∧ 40 + rm.locals ≤ R.locals)
    (hM : MT[mid]? = some M') (hq : COK (M.2.2.1, k, mid, nest)) (hrk : M'.2.1 = rk) (hcs : catS S' ≤ 8)
    (hlen : L.length = M.2.2.2.2.2.1) {H : Heap} {locs : List Loc} {ls : Array Slot} (hP : va_P D vwCl (WS cI cQ α σ) H) (hS : va_S A s.heap H locs) (hl : lvR α ls L) (rL : RL L) (rA : RL as) (rS : RL S') (rσ : RS σ)
    (hc : C mid as σ (pK (PW p l e R s m args below meth c M D cI cQ α A Q) (pc + 3) L S' rk))
    (hkind : (M'.2.2.2.2.2.2.2.2 = 0 ∧ decode M.2.2.2.2.1 pc = .ok (.invokevirtual k, 3) ∧ ∃ a as', as = aR a :: as' ∧ CLS a = M'.2.2.1 ∧ as.length = M'.2.2.2.2.2.2.2.1) ∨ (M'.2.2.2.2.2.2.2.2 = 1 ∧ decode M.2.2.2.2.1 pc = .ok (.invokestatic k, 3) ∧ as.length = M'.2.2.2.2.2.2.2.1)) :
    W p l e R s m args below meth c H locs 0 0 Q (F0 m pc ls ((as.reverse ++ S').map (tr α))) := by
  obtain ⟨M2, hM2, hlink⟩ := hq
  have hMM : M2 = M' := Option.some.inj (hM2.symm.trans hM)
  subst hMM
  have hMOK : MOK M2 := MT_ok M2 (List.mem_of_getElem? hM)
  obtain ⟨k1, k2, k3, k4, k5, k6, k7, k8, k8b, k9⟩ := hMOK
  have hD0 : va_D (fun _ => True) (WS cI cQ α σ) := (va_D_ws X.2.2.2.2.2.2.2.2.2.2.1).weaken (fun _ _ _ _ => True.intro)
  have hMet := hC mid M2 as σ _ hM hc rA rσ D cI cQ α H.size hD0
  have hts := X.2.2.2.2.2.2.1
  have hFix : CallFix p m c M.2.2.2.2.1 M.2.2.2.2.2.1 s args lw_good (CN M.2.2.1) := ⟨X.1, X.2.1, X.2.2.1, X.2.2.2.2.2.1, hts⟩
  have hG : GoodIn lw_good (wsA M2) := wsA_good ⟨k1, k2, k3, k4, k5, k6, k7, k8, k8b, k9⟩
  have hK := X.2.2.2.2.2.2.2.1
  have hN := X.2.2.2.2.2.2.2.2.1
  have hsize : (F0 m pc ls ((as.reverse ++ S').map (tr α))).locals.size = M.2.2.2.2.2.1 := by rw [← hlen]; exact hl.1
  have hR2 : rm.frames + 1 ≤ R.frames ∧ 8 + (M2.2.2.2.2.2.1 + 11) + rm.locals ≤ R.locals := ⟨hR.1, by omega⟩
  have hcat : 2 * (F0 m pc ls ((as.reverse ++ S').map (tr α))).monitorRoom + ((S'.map (tr α)).map fun v => v.category).sum ≤ 8 := lv_room (by rw [catS_sum]; exact hcs)
  have hU : ∀ U : State, U.heap = H → s.WarmedH U.vm → va_Pc (as.map (tr α)) (fun U => U.heap.size = H.size ∧ Wd D cI cQ α σ U) (as.map (tr α)).toArray U := fun U hU hW => ⟨rfl, by rw [hU], by rw [hU]; exact hP, va_K.moved hW.alike hK, NWs.warm hW hN⟩
  have hrk2 : rk = 0 ∨ rk = 1 ∨ rk = 2 ∨ rk = 3 := by
    rw [← hrk]; omega
  refine zs_back (σ := σ) X hrk2 hS hlen hl rL rS (a := (as.map (tr α)).toArray) ?_
  rw [← hrk]
  rw [← hrk] at hMet
  rcases hkind with ⟨hst, hdg, a, as', rfl, hca, hal⟩ | ⟨hst, hdg, hal⟩
  · rcases k9 with ⟨-, c8, cin, csel⟩ | ⟨q, -⟩
    · have hn : (as'.map (tr α)).length = M2.2.2.2.2.2.2.2.1 - 1 := by
        rw [List.length_map, ← hal, List.length_cons]; omega
      have hpar : (parseMethodDescriptor M2.2.2.2.1.desc).map (fun d => d.parameters.length) = some (M2.2.2.2.2.2.2.2.1 - 1) := by
        have h9 := k4.2.2
        rw [hst] at h9
        cases hp : parseMethodDescriptor M2.2.2.2.1.desc with
        | none => rw [hp] at h9; cases h9
        | some d0 =>
          rw [hp] at h9
          simp only [Option.map_some, Option.some.injEq] at h9 ⊢
          omega
      have hstk : (F0 m pc ls (((aR a :: as').reverse ++ S').map (tr α))).stack = (as'.map (tr α)).reverse ++ .ref (α a) :: S'.map (tr α) := by
        show ((aR a :: as').reverse ++ S').map (tr α) = _
        rw [List.reverse_cons, List.append_assoc, List.map_append, List.map_reverse]
        rfl
      obtain ⟨C, T, N, hw⟩ : ∃ C T N, vwCl[M2.2.2.1]? = some (C, T, N) := vw_ex c8
      have hFv := vwf_of hw
      have hrec : ∃ cell : Cell, H[α a]? = some cell ∧ cell.vm.isStatics = false ∧ s.vm.findClass M2.2.2.2.1.cls = some cell.cls := by
        have := va_recv hK hP hw (q0 := a) (a := α a) (fs := (List.range (NFl.getD M2.2.2.1 0)).map (cellV α σ M2.2.2.1 a)) (by rw [WS_get (CLS_lt (by omega)), wcell_obj hca c8])
        rw [k6, ← hFv.2.2.1]
        exact this
      have hpre : PreV s H M2.2.2.2.1.cls (α a) (va_Pc ((aR a :: as').map (tr α)) (fun U => U.heap.size = H.size ∧ Wd D cI cQ α σ U)) (as'.map (tr α)) := ⟨Pc_blind, hrec, hU⟩
      rcases hlink with ⟨-, hlink⟩ | hlink
      · exact va_runV hFix hMet (cwV _ hts (fun w hw => by
          rcases List.mem_append.mp hw with hw | hw
          · rcases List.mem_cons.mp hw with rfl | hw
            · exact lw_goodIn _ hlink
            · rcases List.mem_cons.mp hw with rfl | hw
              · exact lw_goodIn _ cin
              · rcases List.mem_cons.mp hw with rfl | hw
                · exact lw_goodIn _ csel
                · rcases List.mem_cons.mp hw with rfl | hw
                  · exact lw_goodIn _ k3
                  · cases hw
          · exact hG w hw) rfl hrm.1 hrm.2 ⟨rfl, k4.1, k4.2.1, hpar⟩ hR2) hpre rfl hn hsize hstk hcat hdg ⟨Nat.zero_le _, Nat.zero_le _⟩
      · exact va_runVN hFix hMet ⟨va_cnB _ hts hG rfl hrm.1 hrm.2 (hN _ hlink) (hts _ k3) ⟨k4.1, k4.2.1, hpar⟩ hR2, hts _ cin, hts _ csel⟩ hpre rfl hn hsize hstk hcat hdg ⟨Nat.zero_le _, Nat.zero_le _⟩
    · rw [hst] at q; cases q
  · rcases k9 with ⟨q, -⟩ | ⟨-, cst⟩
    · rw [hst] at q; cases q
    · have hn : (as.map (tr α)).length = M2.2.2.2.2.2.2.2.1 := by rw [List.length_map, hal]
      have hpar : (parseMethodDescriptor M2.2.2.2.1.desc).map (fun d => d.parameters.length) = some M2.2.2.2.2.2.2.2.1 := by
        have h9 := k4.2.2
        rw [hst] at h9
        cases hp : parseMethodDescriptor M2.2.2.2.1.desc with
        | none => rw [hp] at h9; cases h9
        | some d0 =>
          rw [hp] at h9
          simp only [Option.map_some, Option.some.injEq] at h9 ⊢
          omega
      have hstk : (F0 m pc ls ((as.reverse ++ S').map (tr α))).stack = (as.map (tr α)).reverse ++ S'.map (tr α) := by
        show (as.reverse ++ S').map (tr α) = _
        rw [List.map_append, List.map_reverse]
      have hpre : PreS s H (va_Pc (as.map (tr α)) (fun U => U.heap.size = H.size ∧ Wd D cI cQ α σ U)) (as.map (tr α)) := ⟨Pc_blind, hU⟩
      rcases hlink with ⟨-, hlink⟩ | hlink
      · exact va_runS hFix hMet (va_cwS _ hts (fun w hw => by
          rcases List.mem_append.mp hw with hw | hw
          · rcases List.mem_cons.mp hw with rfl | hw
            · exact lw_goodIn _ hlink
            · rcases List.mem_cons.mp hw with rfl | hw
              · exact lw_goodIn _ cst
              · rcases List.mem_cons.mp hw with rfl | hw
                · exact lw_goodIn _ k3
                · cases hw
          · exact hG w hw) rfl hrm.1 hrm.2 ⟨k4.1, k4.2.1, hpar⟩ hR2) hpre rfl hn hsize hstk hcat hdg ⟨Nat.zero_le _, Nat.zero_le _⟩
      · exact va_runSN hFix hMet ⟨va_cnB _ hts hG rfl hrm.1 hrm.2 (hN _ hlink) (hts _ k3) ⟨k4.1, k4.2.1, hpar⟩ hR2, hts _ cst, True.intro⟩ hpre rfl hn hsize hstk hcat hdg ⟨Nat.zero_le _, Nat.zero_le _⟩
end SND2
