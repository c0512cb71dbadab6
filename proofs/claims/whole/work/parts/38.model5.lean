/-! THE MODEL: stable, found, judged -/
theorem m_isOne {d : Nat} {x : Int} {σ T : Sg} {K : Kt} (hv : MV σ 86 T) (hw : WF T) (h1 : 0 ≤ x ∧ x < T 0 1 → K 1 σ) (h0 : ¬ (0 ≤ x ∧ x < T 0 1) → K 0 σ) : wpCall (d + 2) iX7_isOne [aR 85, aI x] σ K := by
  obtain ⟨⟨e0, e1, e2, e3, e4⟩, eh, ew, ep⟩ := id hv
  obtain ⟨⟨⟨a1, a2⟩, ⟨a3, a4⟩, ⟨a5, a6⟩, ⟨a7, a8⟩, a9⟩, wh, ww, wp⟩ := id hw
  have hnP : ((nP T : Nat) : Int) = T 0 1 := Int.toNat_of_nonneg a3
  have hnS : ((nS T : Nat) : Int) = T 0 0 := Int.toNat_of_nonneg a1
  have l86 : LEN 86 = 107 := rfl
  refine bX7_isOne ⟨by omega, by omega, ?_⟩
  rw [e1, wr_id ⟨by omega, by omega⟩]
  exact m_isIn (d := d) (fun q => ⟨by decide, h1 (by omega)⟩) (fun q => ⟨by decide, h0 (by omega)⟩)
theorem m_isStreet {d : Nat} {x : Int} {σ T : Sg} {K : Kt} (hv : MV σ 86 T) (hw : WF T) (h1 : 0 ≤ x ∧ x < T 0 0 → K 1 σ) (h0 : ¬ (0 ≤ x ∧ x < T 0 0) → K 0 σ) : wpCall (d + 2) iX7_isStreet [aR 85, aI x] σ K := by
  obtain ⟨⟨e0, e1, e2, e3, e4⟩, eh, ew, ep⟩ := id hv
  obtain ⟨⟨⟨a1, a2⟩, ⟨a3, a4⟩, ⟨a5, a6⟩, ⟨a7, a8⟩, a9⟩, wh, ww, wp⟩ := id hw
  have hnP : ((nP T : Nat) : Int) = T 0 1 := Int.toNat_of_nonneg a3
  have hnS : ((nS T : Nat) : Int) = T 0 0 := Int.toNat_of_nonneg a1
  have l86 : LEN 86 = 107 := rfl
  refine bX7_isStreet ⟨by omega, by omega, ?_⟩
  rw [e0, wr_id ⟨by omega, by omega⟩]
  exact m_isIn (d := d) (fun q => ⟨by decide, h1 (by omega)⟩) (fun q => ⟨by decide, h0 (by omega)⟩)
theorem g2 {b : Bool} {A B : Prop} (h1 : b = true → B) (h0 : b = false → A) : (b2i b = 0 → A) ∧ (¬ b2i b = 0 → B) := by
  cases b
  · exact ⟨fun _ => h0 rfl, fun z => absurd rfl z⟩
  · exact ⟨fun z => absurd z (by decide), fun _ => h1 rfl⟩
theorem doM1 {T : Sg} {w o s : Nat} : doM T 1 w o s = up T 7 w s := by simp [doM]
theorem m_tryOne {d w s : Nat} {σ T : Sg} {K : Kt} (h : MR σ T) (hw : WF T) (hp : (w : Int) < T 0 1) (hs : (s : Int) < T 0 0) (hk : ∀ σ', Ex LTr σ σ' → FRm LFt σ σ' → (∀ j, j < 107 → σ' 90 j = σ 86 j) → MR σ' (up T 7 w s) → σ' 85 24 = b2i (wants T w s) → σ' 85 25 = b2i (may T w s) → K 0 σ') : wpCall (d + 6) iX7_tries [aR 85, aI 1, aI (w : Nat), aI (w : Nat), aI (s : Nat)] σ K := by
  have h5 := hw.1.1
  refine m_tries (d := d) h hw ⟨hp, fun _ => hp, fun _ => hs⟩ (fun σ1 he hf h90 h1 h24 h25 h26 => ?_)
  rw [doM1] at h1 h24 h25
  rw [show (!decide ((1 : Int) = 6)) = true from rfl, wnt_one hp (by omega)] at h24
  exact hk σ1 he hf h90 h1 h24 h25
theorem swap_self {T : Sg} {w : Nat} : doM T 2 w w 0 = T := by
  rw [show doM T 2 w w 0 = up (up T 7 w (T 7 w)) 7 w (T 7 w) by simp [doM]]
  rw [up_same, up_same]
theorem swap_comm {T : Sg} {w o : Nat} : doM T 2 w o 0 = doM T 2 o w 0 := by
  rw [show doM T 2 w o 0 = up (up T 7 w (T 7 o)) 7 o (T 7 w) by simp [doM], show doM T 2 o w 0 = up (up T 7 o (T 7 w)) 7 w (T 7 o) by simp [doM]]
  funext f i
  unfold up
  by_cases e : f = 7
  · subst e
    by_cases e1 : i = o
    · subst e1
      by_cases e2 : i = w
      · subst e2; simp
      · simp [e2]
    · simp [e1]
  · simp [e]
theorem opn_self {T : Sg} {w : Nat} : opn T 2 w w 0 = false := by
  unfold opn
  rw [swap_self]
  have : ¬ 0 < cnt (mvd T T) (nP T) := by
    rw [cnt_pos]
    rintro ⟨p, -, h2⟩
    simp [mvd] at h2
  unfold wnt
  rw [decide_eq_false this, Bool.and_false, Bool.false_and]
theorem opn_comm {T : Sg} {w o : Nat} : opn T 2 w o 0 = opn T 2 o w 0 := by
  unfold opn
  rw [swap_comm]
def opV (T : Sg) (w : Nat) : Bool := anyI (opS T w) (nS T) 0 || anyI (fun o => opn T 2 w o 0) (nP T) 0
theorem opV_opW {T : Sg} : anyI (opV T) (nP T) 0 = anyI (opW T) (nP T) 0 := by
  rw [Bool.eq_iff_iff, anyI_iff, anyI_iff]
  constructor
  · rintro ⟨w, h1, h2, h3⟩
    unfold opV at h3
    rw [Bool.or_eq_true, anyI_iff, anyI_iff] at h3
    rcases h3 with h3 | ⟨o, h4, h5, h6⟩
    · exact ⟨w, h1, h2, by unfold opW; rw [Bool.or_eq_true, anyI_iff]; exact Or.inl h3⟩
    · have h6 : opn T 2 w o 0 = true := h6
      by_cases e : o < w
      · exact ⟨w, h1, h2, by unfold opW; rw [Bool.or_eq_true, anyI_iff, anyI_iff]; exact Or.inr ⟨o, by omega, by omega, h6⟩⟩
      · by_cases e2 : o = w
        · subst e2; rw [opn_self] at h6; cases h6
        · exact ⟨o, h4, h5, by unfold opW; rw [Bool.or_eq_true, anyI_iff, anyI_iff]; exact Or.inr ⟨w, by omega, by omega, by rw [← opn_comm]; exact h6⟩⟩
  · rintro ⟨w, h1, h2, h3⟩
    unfold opW at h3
    rw [Bool.or_eq_true, anyI_iff, anyI_iff] at h3
    rcases h3 with h3 | ⟨o, h4, h5, h6⟩
    · exact ⟨w, h1, h2, by unfold opV; rw [Bool.or_eq_true, anyI_iff]; exact Or.inl h3⟩
    · exact ⟨w, h1, h2, by unfold opV; rw [Bool.or_eq_true, anyI_iff, anyI_iff]; exact Or.inr ⟨o, by omega, by omega, h6⟩⟩
theorem anyI_s (f : Nat → Bool) (k i : Nat) : anyI f (k + 1) i = (f i || anyI f k (i + 1)) := rfl
theorem m_stable {d : Nat} {σ T : Sg} {K : Kt} (h : MR σ T) (hw : WF T) (hk : ∀ σ', Ex LTr σ σ' → MR σ' T → (anyI (opW T) (nP T) 0 = true → K 0 σ') ∧ (anyI (opW T) (nP T) 0 = false → K 1 σ')) : wpCall (d + 8) iX7_stable [aR 85] σ K := by
  have hv := h.1
  obtain ⟨⟨e0, e1, e2, e3, e4⟩, eh, ew, ep⟩ := id hv
  obtain ⟨⟨⟨a1, a2⟩, ⟨a3, a4⟩, ⟨a5, a6⟩, ⟨a7, a8⟩, a9⟩, wh, ww, wp⟩ := id hw
  have hnP : ((nP T : Nat) : Int) = T 0 1 := Int.toNat_of_nonneg a3
  have hnS : ((nS T : Nat) : Int) = T 0 0 := Int.toNat_of_nonneg a1
  have l86 : LEN 86 = 107 := rfl
  rw [← opV_opW] at hk
  have key : ∀ k w : Nat, w + k = nP T → ∀ σ1, Ex LTr σ σ1 → MR σ1 T → (∀ σ', Ex LTr σ σ' → MR σ' T → (anyI (opV T) k w = true → K 0 σ') ∧ (anyI (opV T) k w = false → K 1 σ')) → wpL (wpCall (d + 7)) mX7_stable K 2 [aR 85, aI (w : Nat), aU] [] σ1 := by
    intro k
    induction k with
    | zero =>
      intro w hp σ1 he h1 g
      have f1 : σ1 86 1 = T 0 1 := h1.1.1.2.1
      exact bX7_stable_2 ⟨by omega, by omega, fun z => absurd z (by omega), fun _ => (g σ1 he h1).2 rfl⟩
    | succ k ih =>
      intro w hp σ1 he h1 g
      have f1 : σ1 86 1 = T 0 1 := h1.1.1.2.1
      have kw : ∀ m o : Nat, o + m = nP T → ∀ σ2, Ex LTr σ σ2 → MR σ2 T → (∀ σ', Ex LTr σ σ' → MR σ' T → (anyI (fun o => opn T 2 w o 0) m o = true → K 0 σ')) → (anyI (fun o => opn T 2 w o 0) m o = false → ∀ σ', Ex LTr σ σ' → MR σ' T → (anyI (opV T) k (w + 1) = true → K 0 σ') ∧ (anyI (opV T) k (w + 1) = false → K 1 σ')) → wpL (wpCall (d + 7)) mX7_stable K 56 [aR 85, aI (w : Nat), aI (o : Nat)] [] σ2 := by
        intro m
        induction m with
        | zero =>
          intro o ho σ2 he2 h2 q1 q0
          have f1 : σ2 86 1 = T 0 1 := h2.1.1.2.1
          refine bX7_stable_56 ⟨by omega, by omega, fun z => absurd z (by omega), fun _ => ?_⟩
          rw [wr1 (by omega)]
          exact ih (w + 1) (by omega) σ2 he2 h2 (q0 rfl)
        | succ m ihm =>
          intro o ho σ2 he2 h2 q1 q0
          have f1 : σ2 86 1 = T 0 1 := h2.1.1.2.1
          refine bX7_stable_56 ⟨by omega, by omega, fun _ => m_goesBy (d := d) (k := 2) (s := 0) h2 hw ⟨by omega, fun _ => by omega, fun z => absurd (Or.inr (Or.inr rfl)) z⟩ (by decide) (fun σ3 he3 h3 => g2 (fun y => q1 σ3 (he2.tr he3 (fun _ h => h) (fun _ h => h)) h3 (by rw [anyI_s, y]; rfl)) (fun y => ?_)), fun z => absurd z (by omega)⟩
          rw [wr1 (by omega)]
          exact ihm (o + 1) (by omega) σ3 (he2.tr he3 (fun _ h => h) (fun _ h => h)) h3 (fun σ' h' m' z => q1 σ' h' m' (by rw [anyI_s, z, Bool.or_true])) (fun z => q0 (by rw [anyI_s, z, Bool.or_false]; exact y))
      have ks : ∀ m s : Nat, s + m = nS T → ∀ σ2, Ex LTr σ σ2 → MR σ2 T → (∀ σ', Ex LTr σ σ' → MR σ' T → (anyI (opS T w) m s = true → K 0 σ')) → (anyI (opS T w) m s = false → ∀ σ2, Ex LTr σ σ2 → MR σ2 T → wpL (wpCall (d + 7)) mX7_stable K 56 [aR 85, aI (w : Nat), aI 0] [] σ2) → wpL (wpCall (d + 7)) mX7_stable K 14 [aR 85, aI (w : Nat), aI (s : Nat)] [] σ2 := by
        intro m
        induction m with
        | zero =>
          intro s hs σ2 he2 h2 q1 q0
          have f0 : σ2 86 0 = T 0 0 := h2.1.1.1
          exact bX7_stable_14 ⟨by omega, by omega, fun z => absurd z (by omega), fun _ => q0 rfl σ2 he2 h2⟩
        | succ m ihm =>
          intro s hs σ2 he2 h2 q1 q0
          have f0 : σ2 86 0 = T 0 0 := h2.1.1.1
          refine bX7_stable_14 ⟨by omega, by omega, fun _ => m_goesBy (d := d) (k := 1) h2 hw ⟨by omega, fun _ => by omega, fun _ => by omega⟩ (by decide) (fun σ3 he3 h3 => g2 (fun y => q1 σ3 (he2.tr he3 (fun _ h => h) (fun _ h => h)) h3 (by rw [anyI_s, show opS T w s = true by unfold opS; rw [y]; rfl]; rfl)) (fun y => ?_)), fun z => absurd z (by omega)⟩
          have he3' := he2.tr he3 (fun _ h => h) (fun _ h => h)
          refine m_goesBy (d := d) (k := 3) h3 hw ⟨by omega, fun _ => by omega, fun _ => by omega⟩ (by decide) (fun σ4 he4 h4 => g2 (fun y2 => q1 σ4 (he3'.tr he4 (fun _ h => h) (fun _ h => h)) h4 (by rw [anyI_s, show opS T w s = true by unfold opS; rw [y2, Bool.or_true]]; rfl)) (fun y2 => ?_))
          have e0 : opS T w s = false := by unfold opS; rw [y, y2]; rfl
          rw [wr1 (by omega)]
          exact ihm (s + 1) (by omega) σ4 (he3'.tr he4 (fun _ h => h) (fun _ h => h)) h4 (fun σ' h' m' z => q1 σ' h' m' (by rw [anyI_s, z, Bool.or_true])) (fun z => q0 (by rw [anyI_s, z, e0]; rfl))
      refine bX7_stable_2 ⟨by omega, by omega, fun _ => ?_, fun z => absurd z (by omega)⟩
      refine ks (nS T) 0 (by omega) σ1 he h1 (fun σ' h' m' z => (g σ' h' m').1 (by rw [anyI_s]; unfold opV; rw [z]; rfl)) (fun z σ2 he2 h2 => ?_)
      refine kw (nP T) 0 (by omega) σ2 he2 h2 (fun σ' h' m' z2 => (g σ' h' m').1 (by rw [anyI_s, show opV T w = true by unfold opV; rw [z2, Bool.or_true]]; rfl)) (fun z2 σ' h' m' => ⟨fun z3 => (g σ' h' m').1 (by rw [anyI_s, z3, Bool.or_true]), fun z3 => (g σ' h' m').2 (by rw [anyI_s, z3, show opV T w = false by unfold opV; rw [z, z2]; rfl]; rfl)⟩)
  exact bX7_stable (key (nP T) 0 (by omega) σ Ex.rf h hk)
theorem m_doesFirst {d : Nat} {σ T : Sg} {K : Kt} (h : MR σ T) (hw : WF T) (h1 : ∀ w s, fo T = some (w, s) → (w : Int) < T 0 1 → (s : Int) < T 0 0 → ∀ σ', Ex LTr σ σ' → MR σ' (up T 7 w s) → K 1 σ') (h0 : fo T = none → ∀ σ', Ex LTr σ σ' → MR σ' T → K 0 σ') : wpCall (d + 7) iX7_doesFirst [aR 85] σ K := by
  have hv := h.1
  obtain ⟨⟨e0, e1, e2, e3, e4⟩, eh, ew, ep⟩ := id hv
  obtain ⟨⟨⟨a1, a2⟩, ⟨a3, a4⟩, ⟨a5, a6⟩, ⟨a7, a8⟩, a9⟩, wh, ww, wp⟩ := id hw
  have hnP : ((nP T : Nat) : Int) = T 0 1 := Int.toNat_of_nonneg a3
  have hnS : ((nS T : Nat) : Int) = T 0 0 := Int.toNat_of_nonneg a1
  have l86 : LEN 86 = 107 := rfl
  have key : ∀ k w : Nat, w + k = nP T → ∀ σ1, Ex LTr σ σ1 → MR σ1 T → (∀ x, fsI (fun w => fsI (fun s => if wants T w s && may T w s then some (w, s) else none) (nS T) 0) k w = x → fo T = x) → wpL (wpCall (d + 6)) mX7_doesFirst K 2 [aR 85, aI (w : Nat), aU] [] σ1 := by
    intro k
    induction k with
    | zero =>
      intro w hp σ1 he m1 g
      have f1 : σ1 86 1 = T 0 1 := m1.1.1.2.1
      exact bX7_doesFirst_2 ⟨by omega, by omega, fun z => absurd z (by omega), fun _ => ⟨by decide, h0 (g none rfl) σ1 he m1⟩⟩
    | succ k ih =>
      intro w hp σ1 he m1 g
      have f1 : σ1 86 1 = T 0 1 := m1.1.1.2.1
      refine bX7_doesFirst_2 ⟨by omega, by omega, fun _ => ?_, fun z => absurd z (by omega)⟩
      have ks : ∀ m s : Nat, s + m = nS T → ∀ σ2, Ex LTr σ σ2 → MR σ2 T → (∀ x, fsI (fun s => if wants T w s && may T w s then some (w, s) else none) m s = x → fsI (fun s => if wants T w s && may T w s then some (w, s) else none) (nS T) 0 = x) → wpL (wpCall (d + 6)) mX7_doesFirst K 14 [aR 85, aI (w : Nat), aI (s : Nat)] [] σ2 := by
        intro m
        induction m with
        | zero =>
          intro s hs σ2 he2 m2 gs
          have f0 : σ2 86 0 = T 0 0 := m2.1.1.1
          refine bX7_doesFirst_14 ⟨by omega, by omega, fun z => absurd z (by omega), fun _ => ?_⟩
          rw [wr1 (by omega)]
          refine ih (w + 1) (by omega) σ2 he2 m2 (fun x hx => g x ?_)
          unfold fsI
          rw [gs none rfl]
          exact hx
        | succ m ihm =>
          intro s hs σ2 he2 m2 gs
          have f0 : σ2 86 0 = T 0 0 := m2.1.1.1
          refine bX7_doesFirst_14 ⟨by omega, by omega, fun _ => m_tryOne (d := d) m2 hw (by omega) (by omega) (fun σ3 he3 hf3 h90 m3 h24 h25 => ?_), fun z => absurd z (by omega)⟩
          have he3' := he2.tr he3 (fun _ h => h) (fun _ h => h)
          have nxt : (wants T w s && may T w s) = false → wpCall (d + 6) iX7_putsBack [aR 85] σ3 (fun r2 s2 => wpL (wpCall (d + 6)) mX7_doesFirst K 14 [aR 85, aI (w : Nat), aI (wr ((s : Int) + 1))] [] s2) := fun hb => by
            refine m_putsBack (d := d + 4) h90 m2 hw (fun σ4 he4 hi4 m4 => ?_)
            rw [wr1 (by omega)]
            refine ihm (s + 1) (by omega) σ4 (he3'.tr (l := LTr) he4 (fun _ h => h) (by simp)) m4 (fun x hx => gs x ?_)
            unfold fsI
            rw [hb]
            exact hx
          rw [h24, h25]
          refine g2 (fun y => g2 (fun y2 => ⟨by decide, h1 w s ?_ (by omega) (by omega) σ3 he3' m3⟩) (fun y2 => nxt (by rw [y2, Bool.and_false]))) (fun y => nxt (by rw [y]; rfl))
          refine g _ ?_
          unfold fsI
          rw [gs (some (w, s)) (by unfold fsI; rw [y, y2]; rfl)]
      exact ks (nS T) 0 (by omega) σ1 he m1 (fun x hx => hx)
  exact bX7_doesFirst (key (nP T) 0 (by omega) σ Ex.rf h (fun x hx => hx))
abbrev LFo : List Nat := [85, 86, 89, 90, 91]
theorem m_found28 {d : Nat} {x : Int} {σ σa T : Sg} {K : Kt} (h : MR σ T) (hw : WF T) (hx : x < 0 ∨ (0 ≤ x ∧ x < T 0 1)) (ha : MR σa T) (he : Ex LFo σ σa) (h89 : ∀ j, j < 107 → σa 89 j = σ 86 j) (hk : ∀ σ', Ex LFo σ σ' → MR σ' T → K (if x < 0 then ((stl 40 0 T).1 : Nat) else lv ((stl 40 0 T).2 7 x.toNat)) σ') : wpL (wpCall (d + 7)) mX7_found K 28 [aR 85, aI x, aI 0, aU] [] σa := by
  have l86 : LEN 86 = 107 := rfl
  have l89 : LEN 89 = 107 := rfl
  have key : ∀ k n : Nat, n + k = 40 → ∀ (T1 σ1 : Sg), MR σ1 T1 → WF T1 → T1 0 = T 0 → Ex LFo σ σ1 → (∀ j, j < 107 → σ1 89 j = σ 86 j) → (∀ σ', Ex LFo σ σ' → MR σ' T → K (if x < 0 then ((stl k n T1).1 : Nat) else lv ((stl k n T1).2 7 x.toNat)) σ') → wpL (wpCall (d + 7)) mX7_found K 28 [aR 85, aI x, aI (n : Nat), aU] [] σ1 := by
    intro k
    induction k with
    | zero =>
      intro n hn T1 σ1 m1 hw1 hT he1 h891 g
      have hP : T1 0 1 = T 0 1 := by rw [hT]
      have h8 := hw.1.2.1
      refine bX7_found_28 ⟨fun z => absurd z (by omega), fun _ => ⟨fun q => ?_, fun q => ?_⟩⟩
      · refine m_back (d := d + 6) (σ0 := σ) l89 (by omega) h891 h hw (fun σ2 he2 hi2 m2 => kq (g σ2 (he1.tr (l := LFo) he2 (fun _ h => h) (by simp)) m2) ?_)
        rw [if_pos q]; rfl
      · obtain ⟨p, hp⟩ : ∃ p : Nat, x = p := ⟨x.toNat, by omega⟩
        subst hp
        refine m_at (d := d + 6) m1.1 (by omega) (by omega) (m_back (d := d + 6) (σ0 := σ) l89 (by omega) h891 h hw (fun σ2 he2 hi2 m2 => kq (g σ2 (he1.tr (l := LFo) he2 (fun _ h => h) (by simp)) m2) ?_))
        rw [if_neg q, Int.toNat_natCast]; rfl
    | succ k ih =>
      intro n hn T1 σ1 m1 hw1 hT he1 h891 g
      have hP : T1 0 1 = T 0 1 := by rw [hT]
      have h8 := hw.1.2.1
      refine bX7_found_28 ⟨fun _ => m_doesFirst (d := d) m1 hw1 (fun w s hf hp hs σ2 he2 m2 => ⟨fun z => absurd z (by decide), fun _ => ?_⟩) (fun hf σ2 he2 m2 => ⟨fun _ => ⟨fun q => ?_, fun q => ?_⟩, fun z => absurd rfl z⟩), fun z => absurd z (by omega)⟩
      · rw [wr1 (by omega)]
        have e : stl (k + 1) n T1 = stl k (n + 1) (up T1 7 w s) := by
          show (match fo T1 with | some (w, s) => stl k (n + 1) (up T1 7 w s) | none => (n, T1)) = _
          rw [hf]
        rw [e] at g
        exact ih (n + 1) (by omega) _ σ2 m2 (hw1.home w (by omega)) (by rw [u70]; exact hT) (he1.tr (l := LFo) he2 (fun _ h => h) (by simp)) (fun j hj => by rw [he2 89 (by simp)]; exact h891 j hj) g
      · have e : stl (k + 1) n T1 = (n, T1) := by
          show (match fo T1 with | some (w, s) => stl k (n + 1) (up T1 7 w s) | none => (n, T1)) = _
          rw [hf]
        rw [e] at g
        refine m_back (d := d + 6) (σ0 := σ) l89 (by omega) (fun j hj => by rw [he2 89 (by simp)]; exact h891 j hj) h hw (fun σ3 he3 hi3 m3 => kq (g σ3 ((he1.tr (l := LFo) he2 (fun _ h => h) (by simp)).tr (l := LFo) he3 (fun _ h => h) (by simp)) m3) ?_)
        rw [if_pos q]
      · have e : stl (k + 1) n T1 = (n, T1) := by
          show (match fo T1 with | some (w, s) => stl k (n + 1) (up T1 7 w s) | none => (n, T1)) = _
          rw [hf]
        rw [e] at g
        obtain ⟨p, hp⟩ : ∃ p : Nat, x = p := ⟨x.toNat, by omega⟩
        subst hp
        refine m_at (d := d + 6) m2.1 (by omega) (by omega) (m_back (d := d + 6) (σ0 := σ) l89 (by omega) (fun j hj => by rw [he2 89 (by simp)]; exact h891 j hj) h hw (fun σ3 he3 hi3 m3 => kq (g σ3 ((he1.tr (l := LFo) he2 (fun _ h => h) (by simp)).tr (l := LFo) he3 (fun _ h => h) (by simp)) m3) ?_))
        rw [if_neg q, Int.toNat_natCast]
  exact key 40 0 (by omega) T σa ha hw rfl he h89 hk
theorem m_found {d : Nat} {x : Int} {σ T : Sg} {K : Kt} (h : MR σ T) (hw : WF T) (hn : ¬ (x = -1 ∨ (0 ≤ x ∧ x < T 0 1)) → K (-1) σ) (hk : x = -1 ∨ (0 ≤ x ∧ x < T 0 1) → ∀ σ', Ex LFo σ σ' → MR σ' T → K (if x < 0 then ((stl 40 0 T).1 : Nat) else lv ((stl 40 0 T).2 7 x.toNat)) σ') : wpCall (d + 8) iX7_found [aR 85, aI x] σ K := by
  have l86 : LEN 86 = 107 := rfl
  have l89 : LEN 89 = 107 := rfl
  refine bX7_found ⟨fun q => m_copies (d := d + 6) l86 l89 (by omega) (fun σ1 he1 hi1 => m_found28 h hw (by omega) (h.ex he1 (by simp)) (he1.mono (by simp)) hi1 (hk (Or.inl q))), fun q => m_isOne (d := d + 5) h.1 hw (fun g => ⟨fun z => absurd z (by decide), fun _ => m_copies (d := d + 6) l86 l89 (by omega) (fun σ1 he1 hi1 => m_found28 h hw (by omega) (h.ex he1 (by simp)) (he1.mono (by simp)) hi1 (hk (Or.inr g)))⟩) (fun g => ⟨fun _ => hn (by omega), fun z => absurd rfl z⟩)⟩
theorem ix100 {D i : Nat} (h : D < 9) (hi : i < 1000) : wr (wr (100 * (D : Int)) + (i : Int)) = ((100 * D + i : Nat) : Int) := by unfold wr; push_cast; omega
theorem m_judge30 {d D n : Nat} {b : Nat → Int} {σ σa T : Sg} {K : Kt} (h : MR σ T) (hw : WF T) (hD : D < 8) (hn : n ≤ 100) (h94 : σ 94 D = n) (h95 : ∀ i, i < n → σ 95 (100 * D + i) = b i) (ha : MR σa T) (he : Ex LFo σ σa) (h89 : ∀ j, j < 107 → σa 89 j = σ 86 j) (hk : ∀ σ', Ex LFo σ σ' → MR σ' T → K (jdF b n (n + 1) T 0) σ') : wpL (wpCall (d + 6)) mX7_judge K 30 [aR 85, aI (D : Nat), aU, aI (-4), aI 0, aU, aU] [] σa := by
  have l86 : LEN 86 = 107 := rfl
  have l89 : LEN 89 = 107 := rfl
  have l94 : LEN 94 = 8 := rfl
  have l95 : LEN 95 = 800 := rfl
  have s94 : ∀ {σ1}, Ex LFo σ σ1 → σ1 94 D = n := fun e => (e 94 (by simp) D).trans h94
  have fin : ∀ (due : Int) (i : Nat) (σ1 : Sg), (due ≠ -4 ∨ n ≤ i) → Ex LFo σ σ1 → (∀ j, j < 107 → σ1 89 j = σ 86 j) → (∀ σ', Ex LFo σ σ' → MR σ' T → K due σ') → wpL (wpCall (d + 6)) mX7_judge K 30 [aR 85, aI (D : Nat), aU, aI due, aI (i : Nat), aU, aU] [] σ1 := by
    intro due i σ1 hd he1 h891 g
    refine bX7_judge_30 ?_
    rw [Int.toNat_natCast, s94 he1]
    have bk : wpCall (d + 6) iX7_copies [aR 89, aR 86] σ1 (fun r1 s1 => K due s1) := m_back (d := d + 5) (σ0 := σ) l89 (by omega) h891 h hw (fun σ2 he2 hi2 m2 => g σ2 (he1.tr (l := LFo) he2 (fun _ h => h) (by simp)) m2)
    exact ⟨by omega, by omega, fun z => ⟨fun z2 => by omega, fun _ => bk⟩, fun _ => bk⟩
  have key : ∀ k i : Nat, n < i + k → i ≤ n → i % 2 = 0 → ∀ (T1 σ1 : Sg), MR σ1 T1 → WF T1 → T1 0 = T 0 → Ex LFo σ σ1 → (∀ j, j < 107 → σ1 89 j = σ 86 j) → (∀ σ', Ex LFo σ σ' → MR σ' T → K (jdF b n k T1 i) σ') → wpL (wpCall (d + 6)) mX7_judge K 30 [aR 85, aI (D : Nat), aU, aI (-4), aI (i : Nat), aU, aU] [] σ1 := by
    intro k
    induction k with
    | zero => intro i h1 h2; omega
    | succ k ih =>
      intro i h1 h2 h3 T1 σ1 m1 hw1 hT he1 h891 g
      have h8 := hw.1.2.1
      have hP : T1 0 1 = T 0 1 := by rw [hT]
      have hS : T1 0 0 = T 0 0 := by rw [hT]
      by_cases q : i + 1 < n
      · have e1 : σ1 95 (100 * D + i) = b i := (he1 95 (by simp) _).trans (h95 i (by omega))
        have e2 : σ1 95 (100 * D + (i + 1)) = b (i + 1) := (he1 95 (by simp) _).trans (h95 (i + 1) (by omega))
        have ei : wr (((100 * D + i : Nat) : Int) + 1) = ((100 * D + (i + 1) : Nat) : Int) := by rw [wr1 (by omega)]; rfl
        refine bX7_judge_30 ?_
        rw [ix100 (by omega) (by omega), ei, Int.toNat_natCast, Int.toNat_natCast, Int.toNat_natCast, s94 he1, e1, e2, wr1 (by omega), wr2 (by omega)]
        have stop : ∀ σ2, Ex LFo σ σ2 → (∀ j, j < 107 → σ2 89 j = σ 86 j) → jdF b n (k + 1) T1 i = (i : Int) → wpL (wpCall (d + 6)) mX7_judge K 30 [aR 85, aI (D : Nat), aU, aI (i : Nat), aI ((i + 2 : Nat) : Int), aU, aU] [] σ2 := fun σ2 e h89' hj => fin (i : Nat) (i + 2) σ2 (Or.inl (by omega)) e h89' (fun σ' e' m' => kq (g σ' e' m') hj.symm)
        have goT : ∀ (w s : Nat), b i = w → b (i + 1) = s → (w : Int) < T 0 1 → (s : Int) = 9 → wpL (wpCall (d + 6)) mX7_judge K 145 [aR 85, aI (D : Nat), aU, aU, aI (i : Nat), aI (w : Nat), aI (s : Nat)] [aI 6, aR 85] σ1 := by
          intro w s hbw hbs hwP hs9
          have hs9' : s = 9 := by omega
          subst hs9'
          refine bX7_judge_145 (m_tries (d := d) (k := 6) m1 hw1 ⟨by omega, fun z => by omega, fun z => by omega⟩ (fun σ2 he2 hf2 h90 m2 h24 h25 h26 => ⟨fun _ => ?_, fun z => absurd rfl z⟩))
          have ed : doM T1 6 w w 9 = up T1 7 w 9 := by simp [doM]
          rw [ed] at m2 h25
          rw [h25, wr2 (by omega)]
          have he2' := he1.tr (l := LFo) he2 (fun _ h => h) (by simp)
          have h892 : ∀ j, j < 107 → σ2 89 j = σ 86 j := fun j hj => by rw [he2 89 (by simp)]; exact h891 j hj
          refine g2 (fun y => ?_) (fun y => stop σ2 he2' h892 ?_)
          · refine ih (i + 2) (by omega) (by omega) (by omega) _ σ2 m2 (hw1.home w (Or.inl rfl)) (by rw [u70]; exact hT) he2' h892 (fun σ' e' m' => kq (g σ' e' m') ?_)
            rw [jdF_s, if_pos q, if_pos ⟨by omega, Or.inl (by omega)⟩, hbw, hbs, Int.toNat_natCast, if_pos ⟨Or.inl rfl, y⟩]; rfl
          · rw [jdF_s, if_pos q, if_pos ⟨by omega, Or.inl (by omega)⟩, hbw, hbs, Int.toNat_natCast, if_neg (fun z => by rw [show lawful (up T1 7 w ((9 : Nat) : Int)) = false from y] at z; cases z.2)]
        have goO : ∀ (w s : Nat), b i = w → b (i + 1) = s → (w : Int) < T 0 1 → (s : Int) < T 0 0 → wpL (wpCall (d + 6)) mX7_judge K 145 [aR 85, aI (D : Nat), aU, aU, aI (i : Nat), aI (w : Nat), aI (s : Nat)] [aI 1, aR 85] σ1 := by
          intro w s hbw hbs hwP hsS
          have hS5 := hw.1.1
          refine bX7_judge_145 (m_tryOne (d := d) m1 hw1 (by omega) (by omega) (fun σ2 he2 hf2 h90 m2 h24 h25 => ⟨fun z => by omega, fun _ => ?_⟩))
          rw [h24, h25, wr2 (by omega)]
          have he2' := he1.tr (l := LFo) he2 (fun _ h => h) (by simp)
          have h892 : ∀ j, j < 107 → σ2 89 j = σ 86 j := fun j hj => by rw [he2 89 (by simp)]; exact h891 j hj
          refine g2 (fun y0 => g2 (fun y => ?_) (fun y => stop σ2 he2' h892 ?_)) (fun y0 => stop σ2 he2' h892 ?_)
          · refine ih (i + 2) (by omega) (by omega) (by omega) _ σ2 m2 (hw1.home w (by omega)) (by rw [u70]; exact hT) he2' h892 (fun σ' e' m' => kq (g σ' e' m') ?_)
            rw [jdF_s, if_pos q, if_pos ⟨by omega, Or.inr (by omega)⟩, hbw, hbs, Int.toNat_natCast, Int.toNat_natCast, if_pos ⟨Or.inr y0, y⟩]
          · rw [jdF_s, if_pos q, if_pos ⟨by omega, Or.inr (by omega)⟩, hbw, hbs, Int.toNat_natCast, Int.toNat_natCast, if_neg (fun z => by rw [show lawful (up T1 7 w (s : Int)) = false from y] at z; cases z.2)]
          · rw [jdF_s, if_pos q, if_pos ⟨by omega, Or.inr (by omega)⟩, hbw, hbs, Int.toNat_natCast, Int.toNat_natCast, if_neg (fun z => z.1.elim (fun z => by omega) (fun z => by rw [y0] at z; cases z))]
        refine ⟨by omega, by omega, fun _ => ⟨fun _ => ⟨by omega, by omega, fun z => by omega, fun _ => ⟨by omega, by omega, by omega, by omega, m_isOne (d := d + 4) m1.1 hw1 (fun g1 => ⟨fun z => absurd z (by decide), fun _ => ⟨fun t9 => ⟨fun _ => ?_, fun z => absurd t9 z⟩, fun t9 => m_isStreet (d := d + 4) m1.1 hw1 (fun g2 => ⟨fun z => absurd z (by decide), fun _ => ⟨fun z => absurd z t9, fun _ => ?_⟩⟩) (fun g2 => ⟨fun _ => stop σ1 he1 h891 ?_, fun z => absurd rfl z⟩)⟩⟩) (fun g1 => ⟨fun _ => stop σ1 he1 h891 ?_, fun z => absurd rfl z⟩)⟩⟩, fun z => absurd rfl z⟩, fun z => by omega⟩
        · have := goT (b i).toNat (b (i + 1)).toNat (by omega) (by omega) (by omega) (by omega)
          rw [show (((b i).toNat : Nat) : Int) = b i by omega, show (((b (i + 1)).toNat : Nat) : Int) = b (i + 1) by omega] at this
          exact this
        · have := goO (b i).toNat (b (i + 1)).toNat (by omega) (by omega) (by omega) (by omega)
          rw [show (((b i).toNat : Nat) : Int) = b i by omega, show (((b (i + 1)).toNat : Nat) : Int) = b (i + 1) by omega] at this
          exact this
        · rw [jdF_s, if_pos q, if_neg (fun z => by omega)]
        · rw [jdF_s, if_pos q, if_neg (fun z => by omega)]
      · by_cases q2 : i + 1 = n
        · refine bX7_judge_30 ?_
          rw [Int.toNat_natCast, s94 he1, wr1 (by omega), wr2 (by omega)]
          refine ⟨by omega, by omega, fun _ => ⟨fun _ => ⟨by omega, by omega, fun _ => ⟨by omega, by omega, fin (n : Nat) (i + 2) σ1 (Or.inl (by omega)) he1 h891 (fun σ' e' m' => kq (g σ' e' m') ?_)⟩, fun z => by omega⟩, fun z => absurd rfl z⟩, fun z => by omega⟩
          rw [jdF_s, if_neg q, if_pos (by omega)]
        · refine fin (-4) i σ1 (Or.inr (by omega)) he1 h891 (fun σ' e' m' => kq (g σ' e' m') ?_)
          rw [jdF_s, if_neg q, if_neg (by omega)]
  exact key (n + 1) 0 (by omega) (by omega) (by omega) T σa ha hw rfl he h89 hk
