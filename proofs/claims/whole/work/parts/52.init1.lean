/-! CONSTRUCTORS, the general part: a world in the making is any list of cells -/
def wsI (y : MethodName) (b : ByteArray) (mL : Nat) : List Cond := Cond.code y b mL none :: lw_good
abbrev RT : Type := ClassId → ClassId → Nat → (Nat → Nat) → va_W
def CPr (D : va_G) (cI cQ : ClassId) (h0 sz ci : Nat) (fs0 : List Value) (U : State) : Prop := U.heap.size = sz ∧ va_P D vwCl [(h0, .inr (ci, fs0))] U.heap ∧ va_K D vwCl (tyl cI cQ) U ∧ NWs U ∧ va_AO RX2 U
def CPo (D : va_G) (cI cQ : ClassId) (h0 sz ci : Nat) (fs0 : List Value) (R : RT) (β : Nat → Nat) (t : State) : Prop := va_P D vwCl (R cI cQ h0 β) t.heap ∧ va_D (va_A [(h0, .inr (ci, fs0))] sz) (R cI cQ h0 β)
def CIn (l : Launch) (y : MethodName) (b : ByteArray) (mL : Nat) (rm : Room) (ci : Nat) (fs0 : List Value) (R : RT) : Prop :=
  ∀ (D : va_G) (cI cQ : ClassId) (h0 sz : Nat), Met l y (wsI y b mL) rm (va_Pc [.ref h0] (CPr D cI cQ h0 sz ci fs0)) (va_Qv (fun _ : Nat → Nat => True) (CPo D cI cQ h0 sz ci fs0 R) (va_A [(h0, .inr (ci, fs0))] sz)) rm.cells rm.slots (va_A [(h0, .inr (ci, fs0))] sz)
def Ci (p : Program) (s : State) (m : MethodId) (args : Array Value) (meth : Method) (c : Code) (cc : ByteArray) (mL : Nat) (own : String) (D : va_G) (cI cQ : ClassId) (A : Nat → Prop) : Prop :=
  p.tables.exec = Jvm.exec ∧ c.code = cc ∧ c.maxLocals = mL ∧ meth.locks = false ∧ s.vm.findClass own = some m.cls ∧ (∀ w ∈ lw_good, w.before args s = true) ∧ va_K D vwCl (tyl cI cQ) s ∧ NWs s ∧ va_AO RX2 s ∧ (∀ q : Nat, s.heap.size ≤ q → A q)
theorem va_D_one {A : Nat → Prop} {x : Nat × va_E} (h : A x.1) : va_D A [x] := ⟨fun i j p q hi hj _ => by
  have h1 : i < 1 := (List.getElem?_eq_some_iff.mp hi).1
  have h2 : j < 1 := (List.getElem?_eq_some_iff.mp hj).1
  omega, fun k q hk => by
  have h1 : k < 1 := (List.getElem?_eq_some_iff.mp hk).1
  rw [show k = 0 by omega] at hk
  cases hk
  exact h⟩
theorem wsI_good {y : MethodName} {b : ByteArray} {mL : Nat} (h : Cond.code y b mL none ∈ lw_good) : GoodIn lw_good (wsI y b mL) := fun w hw => by
  rcases List.mem_cons.mp hw with rfl | hw
  · exact lw_goodIn _ h
  · exact lw_goodIn w hw
theorem ci_of {l : Launch} {y : MethodName} {b : ByteArray} {mL : Nat} {rm : Room} {ci : Nat} {fs0 : List Value} {R : RT} (hy : plainName y.cls = true) (hm : 1 ≤ mL)
    (body : ∀ (p : Program) (e : Env) (s : State) (m : MethodId) (args : Array Value) (below : List Frame) (meth : Method) (c : Code) (D : va_G) (cI cQ : ClassId) (A : Nat → Prop) (h0 : Nat) (ls : Array Slot) (Q : State → Prop),
      Ci p s m args meth c b mL y.cls D cI cQ A → meth.name = y.name → lv_has ls mL [(0, .ref h0)] → va_P D vwCl [(h0, .inr (ci, fs0))] s.heap → va_D A [(h0, .inr (ci, fs0))] →
      (∀ (β : Nat → Nat) (pc cells slots : Nat) (H : Heap) (locs : List Loc) (ls : Array Slot), decode b pc = .ok (.return_, 1) → cells ≤ rm.cells → slots ≤ rm.slots → va_P D vwCl (R cI cQ h0 β) H → va_D A (R cI cQ h0 β) → va_S A s.heap H locs → W p l e rm s m args below meth c H locs cells slots Q (F0 m pc ls [])) →
      W p l e rm s m args below meth c s.heap [] 0 0 Q (F0 m 0 ls [])) : CIn l y b mL rm ci fs0 R := by
  intro D cI cQ h0 sz
  refine Met.ofW (cc := b) (maxL := mL) (ret := none) hy rfl ?_
  intro p e s m args below meth c s₁ B hml hv
  obtain ⟨rfl, hsz, hP, hK, hN, hO⟩ := hv
  subst hsz
  have hts := atoms_spec (ws := wsI y b mL) B.pre
  have X : Ci p s m #[.ref h0] meth c b mL y.cls D cI cQ (va_A [(h0, .inr (ci, fs0))] s.heap.size) := ⟨B.exec, B.bytes, hml, B.notSynchronized, findClass_of_methodNamed B.named, fun w hw => hts w (List.mem_cons_of_mem _ hw), hK, hN, hO, fun q h => Or.inr h⟩
  have hl := lv_entry ([.ref h0]) (n := mL) hm
  rw [lg_entry_eq]
  generalize (lg_sl ([.ref h0]) ++ List.replicate (mL - (lg_sl ([.ref h0])).length) Slot.unset).toArray = ls at hl ⊢
  have hl : lv_has ls mL [(0, .ref h0)] := hl
  have hr := B.returns
  have hlocks := B.notSynchronized
  refine body p e s m _ below meth c D cI cQ _ h0 ls _ X (name_of_methodNamed B.named B.method).1 hl hP (va_D_one (Or.inl ⟨0, _, rfl⟩)) ?_
  intro β pc cells slots H locs ls hdg hc1 hc2 hP hD hS
  refine W.widen (k := rm.cells) (n := rm.slots) hc1 hc2 ?_
  exact W.vret B.exec B.bytes hr (fun t ht hW => ⟨⟨β, rfl, trivial, by rw [ht]; exact hP, hD⟩, hS.F ht⟩) hS.2.2 hdg
theorem pmd_v : (parseMethodDescriptor "()V").map (fun d => d.parameters.length) = some 0 := by decide +kernel
section CIS
variable {p : Program} {l : Launch} {e : Env} {R : Room} {s : State} {m : MethodId} {args : Array Value} {below : List Frame} {meth : Method} {c : Code} {cc : ByteArray} {mL : Nat} {own : String} {D : va_G} {cI cQ : ClassId} {A : Nat → Prop} {Q : State → Prop} {pc cells slots : Nat} {H : Heap} {locs : List Loc} {ls : Array Slot} {rest : List Value} {ws : va_W}
theorem ci_obj (X : Ci p s m args meth c cc mL own D cI cQ A) {k h0 : Nat} (hk : Cond.methodLink own k objectInit ∈ lw_good) (hdg : decode cc pc = .ok (.invokespecial k, 3)) (hR : 1 ≤ R.frames ∧ 20 ≤ R.locals) (hl : ls.size = mL) (kk : W p l e R s m args below meth c H locs cells slots Q (F0 m (pc + 3) ls [])) : W p l e R s m args below meth c H locs cells slots Q (F0 m pc ls [.ref h0]) := by
  refine W.objInit X.1 X.2.1 X.2.2.2.2.1 (X.2.2.2.2.2.1 _ hk) (X.2.2.2.2.2.1 _ (gd_t (mt1 25 rfl) rfl)) (X.2.2.2.2.2.1 _ (gd_t (mt1 26 rfl) rfl)) rfl (by rw [X.2.2.1]; exact hl) rfl hdg hR.1 (Nat.le_trans (Nat.le_of_ble_eq_true rfl) hR.2) ?_
  exact kk
theorem ci_int (X : Ci p s m args meth c cc mL own D cI cQ A) {n : Int32} {N : Nat} (hP : va_P D vwCl ws H) (hD : va_D A ws) (hS : va_S A s.heap H locs) (hn : ¬ n < 0) (hN : n.toNatClampNeg = N) (hb : N * 4 ≤ 536870912) (hc : cells + 1 ≤ R.cells) (hs : slots + N ≤ R.slots) (hdg : decode cc pc = .ok (.newarray .int, 2))
    (kk : ∀ (q : Nat) (H1 : Heap), va_P D vwCl (ws ++ [(q, .inl (cI, N, .inl (fun _ => 0)))]) H1 → va_D A (ws ++ [(q, .inl (cI, N, .inl (fun _ => 0)))]) → va_S A s.heap H1 locs → W p l e R s m args below meth c H1 locs (cells + 1) (slots + N) Q (F0 m (pc + 2) ls (.ref q :: rest))) : W p l e R s m args below meth c H locs cells slots Q (F0 m pc ls (.int n :: rest)) := by
  have hI := X.2.2.2.2.2.2.1.2 0 (cI, .int) rfl
  refine va_newa (a0 := (N, .inl (fun _ => (0 : Int32)))) X.1 X.2.1 (X.2.2.2.2.2.1 _ (gd_t (mt1 102 rfl) rfl) : (Cond.arrayClass (newarray.typeOf .int)).before args s = true) rfl X.2.2.2.2.2.2.1 hP hD hS X.2.2.2.2.2.2.2.2.2 (fun _ => rfl) hn hN hb hc hs hdg fun q cA H1 hK1 hP1 hD1 hS1 => ?_
  have h2 := hK1.2 2 (cA, .int) rfl
  have e : cA = cI := Option.some.inj ((show s.vm.findClass _ = some cA from h2.2).symm.trans hI.2)
  subst e
  exact kk q H1 hP1 hD1 hS1
theorem ci_put (X : Ci p s m args meth c cc mL own D cI cQ A) {ci k h0 idx N : Nat} {T : u_T} {fs : List Value} {v : Value} {ty : FieldType} {P : va_W} (hw : vwCl[ci]? = some (own, T, N)) (hk : k < N) (hP : va_P D vwCl ((h0, .inr (ci, fs)) :: P) H) (hD : va_D A ((h0, .inr (ci, fs)) :: P)) (hS : va_S A s.heap H locs)
    (hlink : Cond.fieldLink own idx own (T k).2.1 (T k).2.2.1 ∈ lw_good) (ho : (T k).1 = own) (hin : meth.name = "<init>") (hd : parseFieldDescriptor (T k).2.2.1 = some ty) (hn : narrow ty v = v) (hfit : fits ty v = true) (hlen : k < fs.length) (hdg : decode cc pc = .ok (.putfield idx, 3))
    (kk : ∀ (H1 : Heap) (locs1 : List Loc), va_P D vwCl ((h0, .inr (ci, fs.set k v)) :: P) H1 → va_D A ((h0, .inr (ci, fs.set k v)) :: P) → va_S A s.heap H1 locs1 → W p l e R s m args below meth c H1 locs1 cells slots Q (F0 m (pc + 3) ls rest)) : W p l e R s m args below meth c H locs cells slots Q (F0 m pc ls (v :: .ref h0 :: rest)) := by
  obtain ⟨-, -, -, hin0, ⟨ty0, hty⟩, hnm, -⟩ := vwf_of hw
  cases hf : (T k).2.2.2 with
  | false => exact va_put X.1 X.2.1 X.2.2.2.2.2.1 hin0 ty0 hty hnm X.2.2.2.2.1 X.2.2.2.2.2.2.1 hP hD hS 0 rfl hw k hk (X.2.2.2.2.2.1 _ hlink) (fun x h => by rw [ho] at h; exact h) hf hd hn hfit hlen hdg kk
  | true => exact va_putF X.1 X.2.1 X.2.2.2.2.2.1 hin0 ty0 hty hnm X.2.2.2.2.1 X.2.2.2.2.2.2.1 hP hD hS 0 rfl hw k hk (X.2.2.2.2.2.1 _ hlink) (fun x h => by rw [ho] at h; exact h) hf hin ho hd hn hfit hlen hdg kk
theorem ci_get (X : Ci p s m args meth c cc mL own D cI cQ A) {ci k h0 idx N : Nat} {T : u_T} {fs : List Value} {v : Value} {P : va_W} (hw : vwCl[ci]? = some (own, T, N)) (hk : k < N) (hP : va_P D vwCl ((h0, .inr (ci, fs)) :: P) H)
    (hlink : Cond.fieldLink own idx own (T k).2.1 (T k).2.2.1 ∈ lw_good) (ho : (T k).1 = own) (hv : fs[k]? = some v) (hdg : decode cc pc = .ok (.getfield idx, 3))
    (kk : W p l e R s m args below meth c H locs cells slots Q (F0 m (pc + 3) ls (v :: rest))) : W p l e R s m args below meth c H locs cells slots Q (F0 m pc ls (.ref h0 :: rest)) := by
  obtain ⟨-, -, -, hin0, -⟩ := vwf_of hw
  exact va_get X.1 X.2.1 X.2.2.2.2.2.1 hin0 X.2.2.2.2.1 X.2.2.2.2.2.2.1 hP 0 rfl hw k hk (X.2.2.2.2.2.1 _ hlink) (fun x h => by rw [ho] at h; exact h) hv hdg kk
theorem ci_newq (X : Ci p s m args meth c cc mL own D cI cQ A) {k : Nat} {n : Int32} {N : Nat} (hcl : Cond.classLink own k RX2 ∈ lw_good) (hP : va_P D vwCl ws H) (hD : va_D A ws) (hS : va_S A s.heap H locs) (hn : ¬ n < 0) (hN : n.toNatClampNeg = N) (hb : N * 4 ≤ 536870912) (hc : cells + 1 ≤ R.cells) (hs : slots + N ≤ R.slots) (hdg : decode cc pc = .ok (.anewarray k, 3))
    (kk : ∀ (q : Nat) (H1 : Heap), va_P D vwCl (ws ++ [(q, .inl (cQ, N, .inr (.inr (.inr (.inr (fun _ => none))))))]) H1 → va_D A (ws ++ [(q, .inl (cQ, N, .inr (.inr (.inr (.inr (fun _ => none))))))]) → va_S A s.heap H1 locs → W p l e R s m args below meth c H1 locs (cells + 1) (slots + N) Q (F0 m (pc + 3) ls (.ref q :: rest))) : W p l e R s m args below meth c H locs cells slots Q (F0 m pc ls (.int n :: rest)) := by
  refine va_newq X.1 X.2.1 X.2.2.2.2.1 (X.2.2.2.2.2.1 _ hcl) X.2.2.2.2.2.2.2.2.1 X.2.2.2.2.2.2.1 hP hD hS X.2.2.2.2.2.2.2.2.2 hn hN hb hc hs hdg fun q cA H1 hK1 hP1 hD1 hS1 => ?_
  obtain ⟨-, k1, c1, -, -, -, e1⟩ := hK1.2 2 (cA, .object RX2) rfl
  obtain ⟨-, k2, c2, -, -, -, e2⟩ := hK1.2 1 (cQ, .object RX2) rfl
  have e : cA = cQ := Option.some.inj (e1.symm.trans e2)
  subst e
  exact kk q H1 hP1 hD1 hS1
/-- new, dup, the constructor's call -/
theorem ci_new (X : Ci p s m args meth c cc mL own D cI cQ A) {C : String} {T : u_T} {N ci k1 k2 mL' : Nat} {b : ByteArray} {rm : Room} {fs0 : List Value} {R' : RT} (hw : vwCl[ci]? = some (C, T, N)) (hC : CIn l ⟨C, "<init>", "()V"⟩ b mL' rm ci fs0 R') (ty : Nat → FieldType) (hty : ∀ k, k < N → parseFieldDescriptor (T k).2.2.1 = some (ty k)) (hfs : ∀ j, j < N → defaultValue (ty j) = vp_V fs0 j)
    (hcl : Cond.classLink own k1 C ∈ lw_good) (hinst : Cond.instantiable C N ∈ lw_good) (hini : Cond.initialized C ∈ lw_good) (hcode : Cond.code ⟨C, "<init>", "()V"⟩ b mL' none ∈ lw_good) (hinm : Cond.instanceMethod ⟨C, "<init>", "()V"⟩ ∈ lw_good) (hlk : Cond.methodLink own k2 ⟨C, "<init>", "()V"⟩ ∈ lw_good ∨ Cond.methodLinkNest own k2 ⟨C, "<init>", "()V"⟩ RX6 ∈ lw_nest) (hnm : C ≠ "java/lang/invoke/MethodHandle" ∧ C ≠ "java/lang/invoke/VarHandle")
    (hR : rm.frames + 1 ≤ R.frames ∧ 8 + (mL' + 11) + rm.locals ≤ R.locals) (hP : va_P D vwCl ws H) (hD : va_D A ws) (hS : va_S A s.heap H locs) (hl : ls.size = mL) (hrest : ((Value.ref 0 :: rest).map fun v => v.category).sum ≤ 8) (hc : cells + 1 + rm.cells ≤ R.cells) (hs : slots + N + rm.slots ≤ R.slots)
    (d0 : decode cc pc = .ok (.new k1, 3)) (d3 : decode cc (pc + 3) = .ok (.dup, 1)) (d4 : decode cc (pc + 4) = .ok (.invokespecial k2, 3))
    (kk : ∀ (q : Nat) (β : Nat → Nat) (H1 : Heap) (locs1 : List Loc), va_P D vwCl (ws ++ R' cI cQ q β) H1 → va_D A (ws ++ R' cI cQ q β) → va_S A s.heap H1 locs1 → W p l e R s m args below meth c H1 locs1 (cells + 1 + rm.cells) (slots + N + rm.slots) Q (F0 m (pc + 7) ls (.ref q :: rest))) : W p l e R s m args below meth c H locs cells slots Q (F0 m pc ls rest) := by
  obtain ⟨-, -, -, hin0, -, -, -⟩ := vwf_of hw
  have hts := X.2.2.2.2.2.1
  have hK := X.2.2.2.2.2.2.1
  have hN := X.2.2.2.2.2.2.2.1
  have hO := X.2.2.2.2.2.2.2.2.1
  have hA := X.2.2.2.2.2.2.2.2.2
  refine va_new X.1 X.2.1 hts hin0 ty hty X.2.2.2.2.1 (hts _ hcl) (hts _ hinst) (hts _ hini) hK hP hD hS hA hw hfs (by omega) (by omega) d0 fun q H1 hP1 hD1 hS1 => ?_
  refine lv_dup X.1 X.2.1 d3 rfl ?_
  have hlast : (ws ++ [(q, .inr (ci, fs0))])[ws.length]? = some ((q, .inr (ci, fs0)) : Nat × va_E) := by simp
  have hPc : va_P D vwCl [(q, .inr (ci, fs0))] H1 := fun k x hx => by
    have h1 : k < 1 := (List.getElem?_eq_some_iff.mp hx).1
    rw [show k = 0 by omega] at hx
    cases hx
    exact hP1 ws.length _ hlast
  have hq : A q := hD1.2 ws.length _ hlast
  have hFc : ∀ x, va_A [(q, .inr (ci, fs0))] H1.size x → A x := fun x h => by
    rcases h with ⟨k, e, hk⟩ | h
    · have h1 : k < 1 := (List.getElem?_eq_some_iff.mp hk).1
      rw [show k = 0 by omega] at hk
      cases hk
      exact hq
    · exact hA x (Nat.le_trans hS1.1 h)
  have hFix : CallFix p m c cc mL s args lw_good own := ⟨X.1, X.2.1, X.2.2.1, X.2.2.2.2.1, hts⟩
  have hG : GoodIn lw_good (wsI ⟨C, "<init>", "()V"⟩ b mL') := wsI_good hcode
  have hpre : PreS s H1 (va_Pc [.ref q] (CPr D cI cQ q H1.size ci fs0)) [.ref q] := ⟨fun a U g mk z => by
    obtain ⟨q0, q1, qP, qK, qN, qO⟩ := z
    exact ⟨q0, q1, qP, va_K.moved (u := U) (U := U.calling g mk a) (Vm.Alike.refl U.vm) qK, NWs.same (u := U) (U := U.calling g mk a) rfl qN, va_AO.moved (u := U) (U := U.calling g mk a) (Vm.Alike.refl U.vm) qO⟩, fun U hU hW => ⟨rfl, by rw [hU], by rw [hU]; exact hPc, va_K.moved hW.alike hK, NWs.warm hW hN, va_AO.moved hW.alike hO⟩⟩
  have hrun : va_Run p l e R s m args below meth c H1 locs (cells + 1) (slots + N) rm.cells rm.slots (F0 m (pc + 3 + 1) ls (.ref q :: .ref q :: rest)) (.ref q :: rest) (va_Qv (fun _ : Nat → Nat => True) (CPo D cI cQ q H1.size ci fs0 R') (va_A [(q, .inr (ci, fs0))] H1.size) #[.ref q]) (va_A [(q, .inr (ci, fs0))] H1.size) := by
    rcases hlk with hlk | hlk
    · exact va_runI (As := []) (rest := .ref q :: rest) hFix (hC D cI cQ q H1.size) (cwI 0 hts (fun w hw => hG w hw) rfl rfl rfl (hts _ hini) (hts _ hlk) (hts _ hinm) rfl ⟨hnm.1, hnm.2, pmd_v⟩ hR) hpre rfl rfl hl rfl (lv_room hrest) d4 ⟨hc, hs⟩
    · exact va_runIN (As := []) (rest := .ref q :: rest) hFix (hC D cI cQ q H1.size) ⟨va_cnB 0 hts hG rfl rfl rfl (hN _ hlk) (hts _ hini) ⟨hnm.1, hnm.2, pmd_v⟩ hR, rfl, hts _ hinm⟩ hpre rfl rfl hl rfl (lv_room hrest) d4 ⟨hc, hs⟩
  refine va_callv hrun hS1 (fun x _ h => hFc x h) hFc (fun β t H2 locs2 ht hvm _ hB hz1 hk1 hS2 => ?_)
  obtain ⟨hP2, hD2⟩ := hB
  rw [ht] at hP2
  refine kk q β H2 locs2 ?_ ?_ hS2
  · exact va_P.app (fun k x hx => by
      have h1 : (ws ++ [(q, .inr (ci, fs0))])[k]? = some x := by rw [List.getElem?_append_left (List.getElem?_eq_some_iff.mp hx).1]; exact hx
      refine (hP1 k x h1).kept (hk1 x.1 ((hP1 k x h1).lt) fun h => ?_)
      rcases h with ⟨j, e, hj⟩ | h
      · have h2 : j < 1 := (List.getElem?_eq_some_iff.mp hj).1
        rw [show j = 0 by omega] at hj
        cases hj
        have := hD1.1 k ws.length x _ h1 hlast rfl
        have := (List.getElem?_eq_some_iff.mp hx).1
        omega
      · exact absurd ((hP1 k x h1).lt) (by omega)) hP2
  · refine va_D.app ⟨fun i j x y hi hj hxy => hD1.1 i j x y (by rw [List.getElem?_append_left (List.getElem?_eq_some_iff.mp hi).1]; exact hi) (by rw [List.getElem?_append_left (List.getElem?_eq_some_iff.mp hj).1]; exact hj) hxy, fun k x hx => hD1.2 k x (by rw [List.getElem?_append_left (List.getElem?_eq_some_iff.mp hx).1]; exact hx)⟩ (hD2.weaken (fun k x _ h => hFc x.1 h)) (fun i j x y hx hy hxy => ?_)
    have h1 : (ws ++ [(q, .inr (ci, fs0))])[i]? = some x := by rw [List.getElem?_append_left (List.getElem?_eq_some_iff.mp hx).1]; exact hx
    have h3 := hD2.2 j y hy
    rw [← hxy] at h3
    rcases h3 with ⟨j, e, hj⟩ | h
    · have h2 : j < 1 := (List.getElem?_eq_some_iff.mp hj).1
      rw [show j = 0 by omega] at hj
      have e2 : q = x.1 := congrArg (·.1) (Option.some.inj hj)
      have := hD1.1 i ws.length x _ h1 hlast e2.symm
      have := (List.getElem?_eq_some_iff.mp hx).1
      omega
    · exact absurd ((hP1 i x h1).lt) (by omega)
end CIS
