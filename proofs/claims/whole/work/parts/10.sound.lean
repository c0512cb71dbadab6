/-! EVERY STEP, and every method -/
theorem ft_mem : ∀ (T : List En) (pc : Nat) (r : Instr × Nat × List Nat × Int), ft T pc = some r → (pc, r) ∈ T
  | [], _, _, h => by simp [ft] at h
  | e :: T, pc, r, h => by
    unfold ft at h
    split at h
    · next q =>
      cases h
      rw [← Nat.eq_of_beq_eq_true q]
      exact List.mem_cons_self
    · exact List.mem_cons_of_mem _ (ft_mem T pc r h)
def isTs : Instr → Bool
  | .tableswitch .. => true
  | _ => false
theorem okE_spec {own maxL pc nx : Nat} {bytes : ByteArray} {i : Instr} {rs : List Nat} {cv : Int} (hi : isTs i = false) (h : okE own maxL bytes (pc, i, nx, rs, cv) = true) : decode bytes pc = .ok (i, lnI i) ∧ nx = pc + lnI i ∧ okI own maxL pc i rs cv = true := by
  unfold okE at h
  cases i <;> first | (exact Bool.noConfusion (show true = false from hi)) | (simp only [Bool.and_eq_true, decide_eq_true_eq] at h; exact ⟨h.1.1, h.1.2, h.2⟩)
theorem r32b_ok {x : Int} (h : r32b x = true) : R32 x := of_decide_eq_true h
section SND3
variable {p : Program} {l : Launch} {e : Env} {R : Room} {s : State} {m : MethodId} {args : Array Value} {below : List Frame} {meth : Method} {c : Code} {M : Mi} {D : va_G} {cI cQ : ClassId} {α : Nat → Nat} {A : Nat → Prop} {K : Kt} {pc nx : Nat} {L S : List Av} {σ : Sg}
theorem zs_iret {x : Int} (X : Cx p s m args meth c M D cI cQ α A) (hd : decode M.2.2.2.2.1 pc = .ok (.ireturn, 1)) (h : (M.2.1 = 1 ∧ K x σ) ∨ (M.2.1 = 2 ∧ (x = 0 ∨ x = 1) ∧ K x σ)) : PW p l e R s m args below meth c M D cI cQ α A (MQ below (QM M.2.1 K D cI cQ α A) args s 0 0 A) pc L [aI x] σ := by
  intro hlen H locs ls hP hS hl rL rS rσ
  have rx : R32 x := RL_hd rS
  have hret := X.2.2.2.1
  rw [X.2.2.2.2.2.2.2.2.2.2.2.2.2.2.2.2.2.1] at hret
  have hW : ∀ t : State, t.heap = H → s.WarmedH t.vm → Wd D cI cQ α σ t := fun t ht hw => ⟨by rw [ht]; exact hP, va_K.moved hw.alike X.2.2.2.2.2.2.2.1, NWs.warm hw X.2.2.2.2.2.2.2.2.1⟩
  rcases h with ⟨hk, h⟩ | ⟨hk, hx, h⟩
  · rw [hk] at hret
    refine W.zret (ty := .int) (v := Int32.ofInt x) X.1 X.2.1 hret rfl (fun t ht hw => ?_) hS.2.2 hd X.2.2.2.2.1
    rw [hk]
    exact ⟨⟨_, σ, rfl, ⟨by rw [i32_of rx]; exact h, rσ⟩, hW t ht hw⟩, hS.F ht⟩
  · rw [hk] at hret
    refine W.zret (ty := .boolean) (v := Int32.ofInt x) X.1 X.2.1 hret (by rcases hx with rfl | rfl <;> rfl) (fun t ht hw => ?_) hS.2.2 hd X.2.2.2.2.1
    rw [hk]
    exact ⟨⟨_, σ, rfl, ⟨by rw [i32_of rx]; exact h, rσ⟩, hW t ht hw⟩, hS.F ht⟩
theorem zs_lret {x : Int} (X : Cx p s m args meth c M D cI cQ α A) (hd : decode M.2.2.2.2.1 pc = .ok (.lreturn, 1)) (hk : M.2.1 = 3) (h : K x σ) : PW p l e R s m args below meth c M D cI cQ α A (MQ below (QM M.2.1 K D cI cQ α A) args s 0 0 A) pc L [aJ x] σ := by
  intro hlen H locs ls hP hS hl rL rS rσ
  have rx : R32 x := RL_hd rS
  have hret := X.2.2.2.1
  rw [X.2.2.2.2.2.2.2.2.2.2.2.2.2.2.2.2.2.1, hk] at hret
  refine W.lret (v := Int64.ofInt x) X.1 X.2.1 hret (fun t ht hw => ?_) hS.2.2 hd X.2.2.2.2.1
  rw [hk]
  exact ⟨⟨_, σ, rfl, ⟨⟨by rw [i64_toInt rx]; exact h, by rw [i64_toInt rx]; exact rx⟩, rσ⟩, ⟨by rw [ht]; exact hP, va_K.moved hw.alike X.2.2.2.2.2.2.2.1, NWs.warm hw X.2.2.2.2.2.2.2.2.1⟩⟩, hS.F ht⟩
theorem zs_vret (X : Cx p s m args meth c M D cI cQ α A) (hd : decode M.2.2.2.2.1 pc = .ok (.return_, 1)) (hk : M.2.1 = 0) (h : K 0 σ) : PW p l e R s m args below meth c M D cI cQ α A (MQ below (QM M.2.1 K D cI cQ α A) args s 0 0 A) pc L [] σ := by
  intro hlen H locs ls hP hS hl rL rS rσ
  have hret := X.2.2.2.1
  rw [X.2.2.2.2.2.2.2.2.2.2.2.2.2.2.2.2.2.1, hk] at hret
  refine W.vret X.1 X.2.1 hret (fun t ht hw => ?_) hS.2.2 hd X.2.2.2.2.1
  rw [hk]
  exact ⟨⟨σ, rfl, ⟨h, rσ⟩, ⟨by rw [ht]; exact hP, va_K.moved hw.alike X.2.2.2.2.2.2.2.1, NWs.warm hw X.2.2.2.2.2.2.2.2.1⟩⟩, hS.F ht⟩
set_option maxHeartbeats 8000000 in
theorem step_PW {C : Orc} {rm : Room} (hC : CSound l rm C) (X : Cx p s m args meth c M D cI cQ α A) (hrm : rm.cells = 0 ∧ rm.slots = 0) (hR : rm.frames + 1 ≤ R.frames ∧ 40 + rm.locals ≤ R.locals) (h : stepP C M K (PW p l e R s m args below meth c M D cI cQ α A (MQ below (QM M.2.1 K D cI cQ α A) args s 0 0 A)) pc L S σ) : PW p l e R s m args below meth c M D cI cQ α A (MQ below (QM M.2.1 K D cI cQ α A) args s 0 0 A) pc L S σ := by
  have hMOK : MOK M := X.2.2.2.2.2.2.2.2.2.2.2
  unfold stepP at h
  cases hf : ft M.1 pc with
  | none => rw [hf] at h; exact h.elim
  | some en =>
    obtain ⟨i, nx, rs, cv⟩ := en
    rw [hf] at h
    dsimp only at h
    have hok := List.all_eq_true.mp hMOK.1 _ (ft_mem _ _ _ hf)
    by_cases hts : isTs i = true
    · cases i <;> first | (exact Bool.noConfusion (show false = true from hts)) | skip
      case tableswitch d lo hi offs =>
        dsimp only at h
        split at h
        · next t ts x S' =>
          simp only [okE, okI, Bool.and_eq_true, decide_eq_true_eq] at hok
          exact zs_sw X hok.1 hok.2.1.1 hok.2.1.2 hok.2.2 h
        · exact h.elim
    · have hts : isTs i = false := by simpa using hts
      obtain ⟨hd, hnx, hk⟩ := okE_spec hts hok
      clear hok
      subst hnx
      cases i <;> dsimp only at h <;> first
        | exact h.elim
        | exact Bool.noConfusion (show true = false from hts)
        | skip
      case iload k => exact zs_iload X hd h
      case iload_n k => exact zs_iload_n X hd h
      case aload k => exact zs_aload X hd h
      case aload_n k => exact zs_aload_n X hd h
      case lload k => exact zs_lload X hd h
      case lload_n k => exact zs_lload_n X hd h
      case istore k => exact zs_istore X hd (of_decide_eq_true hk) h
      case istore_n k => exact zs_istore_n X hd (of_decide_eq_true hk) h
      case astore k => exact zs_astore X hd (of_decide_eq_true hk) h
      case astore_n k => exact zs_astore_n X hd (of_decide_eq_true hk) h
      case iconst n =>
        simp only [okI, Bool.and_eq_true, decide_eq_true_eq] at hk
        exact zs_iconst X hd hk.1 (r32b_ok hk.2) h
      case bipush n =>
        simp only [okI, Bool.and_eq_true, decide_eq_true_eq] at hk
        exact zs_bipush X hd hk.1 (r32b_ok hk.2) h
      case sipush n =>
        simp only [okI, Bool.and_eq_true, decide_eq_true_eq] at hk
        exact zs_sipush X hd hk.1 (r32b_ok hk.2) h
      case ldc k => exact zs_ldc X hd (zkl_ok _ (of_decide_eq_true hk)) h
      case ldc_w k => exact zs_ldc_w X hd (zkl_ok _ (of_decide_eq_true hk)) h
      case ldc2_w k => exact zs_ldc2 X hd (zjl_ok _ (of_decide_eq_true hk)) h
      case lconst n =>
        simp only [okI, Bool.and_eq_true, decide_eq_true_eq] at hk
        exact zs_lconst X hd hk.1 (r32b_ok hk.2) h
      case iadd => exact zs_iadd X hd h
      case isub => exact zs_isub X hd h
      case imul => exact zs_imul X hd h
      case iand => exact zs_iand X hd h
      case ior => exact zs_ior X hd h
      case ixor => exact zs_ixor X hd h
      case ishl => exact zs_ishl X hd h
      case ishr => exact zs_ishr X hd h
      case iushr => exact zs_iushr X hd h
      case idiv => exact zs_idiv X hd h
      case irem => exact zs_irem X hd h
      case ineg => exact zs_ineg X hd h
      case i2b => exact zs_i2b X hd h
      case i2s => exact zs_i2s X hd h
      case i2l =>
        split at h
        · exact zs_i2l X hd h
        · exact h.elim
      case lcmp =>
        split at h
        · exact zs_lcmp X hd h
        · exact h.elim
      case dup =>
        split at h
        · exact zs_dup_aI X hd h
        · exact zs_dup_aR X hd h
        · exact h.elim
      case dup2 =>
        split at h
        · exact zs_dup2 X hd h
        · exact h.elim
      case iinc k n =>
        split at h
        · next e1 e2 => exact zs_iinc X hd (of_decide_eq_true hk) e1 e2 h
        · exact h.elim
      case goto off =>
        split at h
        · exact zs_goto X hd (of_decide_eq_true hk) h
        · exact h.elim
      case ifCond cc off =>
        split at h
        · exact zs_ifc X hd (of_decide_eq_true hk) h
        · exact h.elim
      case if_icmp cc off =>
        split at h
        · exact zs_icmp X hd (of_decide_eq_true hk) h
        · exact h.elim
      case getfield k =>
        split at h
        · next ci f fk a S' =>
          simp only [okI, Bool.and_eq_true] at hk
          have hq := zfl_ok _ (inQ_mem _ _ _ _ _ hk.1)
          have hfk := Nat.eq_of_beq_eq_true hk.2
          obtain ⟨hc, h⟩ := clsP_spec h
          split at h
          · exact zs_get (v := aR (RF ci f a)) X hd hq hc (fun _ _ _ => ⟨by unfold cellV; rw [← hfk]; rfl, True.intro⟩) h
          · exact zs_get (v := aR (σ a f).toNat) X hd hq hc (fun _ _ _ => ⟨by unfold cellV; rw [← hfk]; rfl, True.intro⟩) h
          · next n3 n2 => exact zs_get (v := aI (σ a f)) X hd hq hc (fun _ _ r => ⟨by unfold cellV; rw [← hfk]; split <;> first | (exact absurd rfl n2) | (exact absurd rfl n3) | rfl, show R32 _ from r _ _⟩) h
        · exact h.elim
      case putfield k =>
        split at h
        · next ci f x a S' =>
          simp only [okI, Bool.and_eq_true] at hk
          have hq := zfl_ok _ (inQ_mem _ _ _ _ _ hk.1)
          have hfk := Nat.eq_of_beq_eq_true hk.2
          obtain ⟨hc, h⟩ := clsP_spec h
          refine zs_put (v := aI x) (x := x) (ty := .int) (dsc := "I") X hd hq hc (fun C T N hV hN => ?_) (by decide +kernel) rfl rfl (by unfold cellV; rw [← hfk, up_self]; rfl) id h
          rcases hV.2.2.2.2.2.2 f hN with ⟨_, a, b⟩ | ⟨q, _⟩ | ⟨q, _⟩ | q
          · exact ⟨a, b⟩
          all_goals omega
        · next ci f x a S' =>
          simp only [okI, Bool.and_eq_true] at hk
          have hq := zfl_ok _ (inQ_mem _ _ _ _ _ hk.1)
          have hfk := Nat.eq_of_beq_eq_true hk.2
          obtain ⟨hc, hx, h⟩ := clsP_spec h
          refine zs_put (v := aI x) (x := x) (ty := .boolean) (dsc := "Z") X hd hq hc (fun C T N hV hN => ?_) (by decide +kernel) (by rcases hx with rfl | rfl <;> rfl) (by rcases hx with rfl | rfl <;> rfl) (by unfold cellV; rw [← hfk, up_self]; rfl) id h
          rcases hV.2.2.2.2.2.2 f hN with ⟨q, _⟩ | ⟨_, a, b⟩ | ⟨q, _⟩ | q
          · omega
          · exact ⟨a, b⟩
          all_goals omega
        · next ci f j a S' =>
          simp only [okI, Bool.and_eq_true] at hk
          have hq := zfl_ok _ (inQ_mem _ _ _ _ _ hk.1)
          have hfk := Nat.eq_of_beq_eq_true hk.2
          obtain ⟨hc, hx, h⟩ := clsP_spec h
          refine zs_put (v := aR j) (x := Int.ofNat j) (ty := .array .int) (dsc := "[I") X hd hq hc (fun C T N hV hN => ?_) (by decide +kernel) rfl rfl (by unfold cellV; rw [← hfk, up_self]; rfl) (fun _ => by simp only [Int.ofNat_eq_natCast]; omega) h
          rcases hV.2.2.2.2.2.2 f hN with ⟨q, _⟩ | ⟨q, _⟩ | ⟨_, a, b⟩ | q
          · omega
          · omega
          · exact ⟨a, b⟩
          · omega
        · exact h.elim
      case iaload =>
        split at h
        · exact zs_iald X hd h.1 h.2.1 h.2.2
        · exact h.elim
      case iastore =>
        split at h
        · exact zs_iast X hd h.1 h.2.1 h.2.2
        · exact h.elim
      case aaload =>
        split at h
        · split at h
          · next q =>
            have e1 := Nat.eq_of_beq_eq_true q
            subst e1
            exact zs_aald X hd h.1 h.2.1 h.2.2
          · exact h.elim
        · exact h.elim
      case arraylength =>
        split at h
        · exact zs_alen X hd h.1 h.2
        · exact h.elim
      case invokevirtual k =>
        split at h
        · next mid n rk ci nest =>
          simp only [okI, Bool.and_eq_true] at hk
          have hq := zcl_ok _ (inQ_mem _ _ _ _ _ hk.1)
          obtain ⟨M', hM, hn, hrk, hci, hst⟩ := inM_some hk.2
          unfold pIv at h
          split at h
          · exact h.elim
          · next as S' htk =>
            obtain ⟨bs, hS1, hS2, hS3⟩ := takeN_spec _ _ _ _ _ htk
            rw [List.append_nil] at hS3
            split at h
            · exact h.elim
            · next hbl =>
              split at h
              · contradiction
              · next ci2 a as' q =>
                cases q
                obtain ⟨hc, h⟩ := clsP_spec h
                intro hlen H locs ls hP hS hl rL rS rσ
                have hSe : S = (aR a :: as').reverse ++ S' := by rw [hS1, hS3, List.reverse_reverse]
                rw [hSe]
                rw [hSe] at rS
                refine zs_call hC X hrm hR hM hq hrk (Nat.le_of_ble_eq_true hbl) hlen hP hS hl rL (fun v hv => rS v (List.mem_append_left _ (List.mem_reverse.mpr hv))) (fun v hv => rS v (List.mem_append_right _ hv)) rσ h (Or.inl ⟨hst, hd, a, as', rfl, by rw [hc, hci], ?_⟩)
                rw [hn, hS3, List.length_reverse, hS2]
              · exact h.elim
        · exact h.elim
      case invokestatic k =>
        split at h
        · next mid n rk ci nest =>
          simp only [okI, Bool.and_eq_true] at hk
          have hq := zcl_ok _ (inQ_mem _ _ _ _ _ hk.1)
          obtain ⟨M', hM, hn, hrk, hci, hst⟩ := inM_some hk.2
          unfold pIv at h
          split at h
          · exact h.elim
          · next as S' htk =>
            obtain ⟨bs, hS1, hS2, hS3⟩ := takeN_spec _ _ _ _ _ htk
            rw [List.append_nil] at hS3
            split at h
            · exact h.elim
            · next hbl =>
              split at h
              · intro hlen H locs ls hP hS hl rL rS rσ
                subst hS3
                have hSe : S = bs.reverse.reverse ++ S' := by rw [hS1, List.reverse_reverse]
                rw [hSe]
                rw [hSe] at rS
                refine zs_call hC X hrm hR hM hq hrk (Nat.le_of_ble_eq_true hbl) hlen hP hS hl rL (fun v hv => rS v (List.mem_append_left _ (List.mem_reverse.mpr hv))) (fun v hv => rS v (List.mem_append_right _ hv)) rσ h (Or.inr ⟨hst, hd, ?_⟩)
                rw [hn, List.length_reverse, hS2]
              · contradiction
              · rename_i q1 q2
                exact (q1 rfl).elim
        · split at h
          · split at h
            · exact h.elim
            · next q => exact zs_max X hd (by omega) (by omega) (zxl_ok _ (of_decide_eq_true hk)) (Nat.le_of_ble_eq_true q) h
          · exact h.elim
        · split at h
          · split at h
            · exact h.elim
            · next q =>
              obtain ⟨h1, h2, h3, h4, h5, h6, h7, h8⟩ := h
              exact zs_copy X hd (by omega) (by omega) (zal_ok _ (of_decide_eq_true hk)) (Nat.le_of_ble_eq_true q) h1 h2 h3 h4 h5 h6 h7 h8
          · exact h.elim
        · exact h.elim
      case ireturn =>
        split at h
        · split at h
          · next q => exact zs_iret X hd (Or.inl ⟨q, h⟩)
          · next q => exact zs_iret X hd (Or.inr ⟨q, h⟩)
          · exact h.elim
        · exact h.elim
      case lreturn =>
        split at h
        · split at h
          · next q => exact zs_lret X hd q h
          · exact h.elim
        · exact h.elim
      case return_ =>
        split at h
        · split at h
          · next q => exact zs_vret X hd q h
          · exact h.elim
        · exact h.elim
end SND3
theorem lg_len {α : Nat → Nat} : ∀ (as : List Av), (lg_sl (as.map (tr α))).length = catS as
  | [] => rfl
  | .inl x :: l => congrArg (· + 1) (lg_len l)
  | .inr (.inl x) :: l => congrArg (· + 1) (lg_len l)
  | .inr (.inr (.inl x)) :: l => congrArg (· + 2) (lg_len l)
  | .inr (.inr (.inr x)) :: l => congrArg (· + 1) (lg_len l)
theorem RL_ent : ∀ (n : Nat) (as : List Av), RL as → RL (entL n as)
  | n, [], _ => by
    have : ∀ k, RL (repU k) := fun k => by induction k with
      | zero => exact RL_nil
      | succ k ih => exact RL_cons True.intro ih
    exact this n
  | n, .inl x :: l, h => RL_cons (RL_hd h) (RL_ent (n - 1) l (RL_tl h))
  | n, .inr (.inl x) :: l, h => RL_cons (RL_hd h) (RL_ent (n - 1) l (RL_tl h))
  | n, .inr (.inr (.inl x)) :: l, h => RL_cons (RL_hd h) (RL_cons True.intro (RL_ent (n - 2) l (RL_tl h)))
  | n, .inr (.inr (.inr x)) :: l, h => RL_cons (RL_hd h) (RL_ent (n - 1) l (RL_tl h))
/-- WHAT COUNTS: a call that comes to K by the abstract machine comes to it by the machine -/
theorem sound (l : Launch) : ∀ d, CSound l (rmD d) (wpCall d)
  | 0 => fun _ _ _ _ _ _ h => h.elim
  | d + 1 => by
    intro mid M as σ K hM h rA rσ D cI cQ α sz hD
    have hMOK : MOK M := MT_ok M (List.mem_of_getElem? hM)
    obtain ⟨k1, k2, k3, k4, k5, k6, k7, k8, k8b, k9⟩ := id hMOK
    unfold wpCall at h
    rw [hM] at h
    dsimp only at h
    split at h
    · next hbl =>
      have hcat := Nat.le_of_ble_eq_true hbl
      refine Met.ofW (cc := M.2.2.2.2.1) (maxL := M.2.2.2.2.2.1) (ret := M.2.2.2.2.2.2.1) k5 rfl ?_
      intro p e s m args below meth c s₁ B hml hv
      obtain ⟨rfl, hsz, hP, hK, hN⟩ := hv
      subst hsz
      have hts := atoms_spec (ws := wsA M) B.pre
      have X : Cx p s m (as.map (tr α)).toArray meth c M D cI cQ α (va_A (WS cI cQ α σ) s.heap.size) := ⟨B.exec, B.bytes, hml, B.returns, B.notSynchronized, by rw [← k6]; exact findClass_of_methodNamed B.named, fun w hw => hts w (List.mem_cons_of_mem _ hw), hK, hN, fun q h => Or.inr h, va_D_ws hD.self, hMOK⟩
      have hl := lv_entry (as.map (tr α)) (n := M.2.2.2.2.2.1) (by rw [lg_len]; exact hcat)
      rw [lg_entry_eq]
      generalize (lg_sl (as.map (tr α)) ++ List.replicate (M.2.2.2.2.2.1 - (lg_sl (as.map (tr α))).length) Slot.unset).toArray = ls at hl ⊢
      have hlv : lvR α ls (entL M.2.2.2.2.2.1 as) := ⟨by rw [entL_len _ _ hcat]; exact hl.1, hl.2.1, fun k v h1 h2 => by
        have h3 := entL_arg (α := α) _ as 0 k v h1 h2
        rw [Nat.zero_add] at h3
        exact hl.2.2 _ h3⟩
      exact h (PW p l e (rmD (d + 1)) s m (as.map (tr α)).toArray below meth c M D cI cQ α (va_A (WS cI cQ α σ) s.heap.size) (MQ below (QM M.2.1 K D cI cQ α (va_A (WS cI cQ α σ) s.heap.size)) (as.map (tr α)).toArray s 0 0 (va_A (WS cI cQ α σ) s.heap.size)))
        (fun pc L S σ' hs => step_PW (sound l d) X ⟨rfl, rfl⟩ ⟨Nat.le_refl _, by show 40 + 40 * d ≤ 40 * (d + 1); omega⟩ hs) (entL_len _ _ hcat) s.heap [] ls hP va_S.rf hlv (RL_ent _ _ rA) RL_nil rσ
    · exact h.elim
