/-! what is only thought through -/
abbrev L36 : List Nat := [36, 37, 38, 39, 40, 41, 42, 43, 44]
abbrev L27 : List Nat := [27, 28, 29, 30, 31, 32, 33, 34, 35]
theorem tw36 : TW 36 := rfl
theorem tw27 : TW 27 := rfl
theorem TV.no36 {σ σ' : Sg} {t : Nat} {T : Sg} (hv : TV σ t T) (h : t ≠ 36) (he : Ex L36 σ σ') : TV σ' t T := hv.ex he (fun i hi => by
  rcases tw_cases hv.1 with rfl | rfl | rfl | rfl | rfl
  all_goals simp
  all_goals omega)
theorem TV.no27 {σ σ' : Sg} {t : Nat} {T : Sg} (hv : TV σ t T) (h : t ≠ 27) (he : Ex L27 σ σ') : TV σ' t T := hv.ex he (fun i hi => by
  rcases tw_cases hv.1 with rfl | rfl | rfl | rfl | rfl
  all_goals simp
  all_goals omega)
theorem s_attempt {d v t w o s : Nat} {σ T : Sg} {k : Int} {K : Kt} (hm : MO σ v k w o s) (hv : TV σ t T) (hw : WF T) (ht36 : t ≠ 36) (hok : okM T k w o s) (hk : ∀ σ', Ex L36 σ σ' → TV σ' 36 (doM T k w o s) → K 0 σ') : wpCall (d + 4) iX5_attempt [aR 55, aR t, aR v] σ K := by
  have hr := mve_r hm.1
  refine bX5_attempt ⟨tw36, s_become tw36 hv.1 (Ne.symm ht36) (fun σ1 he1 hb => ⟨hm.1, s_doIn (hm.ex he1 (by simp; omega)) (hb.tv tw36 hv hw) hw hok (fun σ2 he2 hv2 => hk σ2 (he1.tr he2 (by simp) (by simp)) hv2)⟩)⟩
theorem doM_P {T : Sg} {k : Int} {w o s : Nat} : doM T k w o s 0 = T 0 := by
  have u0 : ∀ (S : Sg) p v, up S 7 p v 0 = S 0 := fun S p v => up_f (by omega)
  have u4 : ∀ (S : Sg) p v, up S 4 p v 0 = S 0 := fun S p v => up_f (by omega)
  rw [doM_def]
  unfold chM
  split
  · rw [u0]
  split
  · rw [u0, u0]
  split
  · split <;> simp only [u0]
  split
  · split <;> simp only [u0]
  split
  · rw [u0, u0]
  split
  · rw [u0]
  split
  · rw [u4, u0]
  · rfl
theorem b2i_d (b : Bool) : b2i b = 0 ∨ b2i b = 1 := by cases b <;> decide
/-- wanted, and may be -/
def opn (T : Sg) (k : Int) (w o s : Nat) : Bool := wnt T (doM T k w o s) (!decide (k = 6)) && lawful (doM T k w o s)
theorem s_isWanted {d v t w o s : Nat} {σ T : Sg} {k : Int} {K : Kt} (hm : MO σ v k w o s) (hv : TV σ t T) (hw : WF T) (ht36 : t ≠ 36) (hok : okM T k w o s) (hk : ∀ σ', Ex L36 σ σ' → K (b2i (wnt T (doM T k w o s) (!decide (k = 6)))) σ') : wpCall (d + 5) iX5_isWanted [aR 55, aR t, aR v] σ K := by
  have hr := mve_r hm.1
  refine bX5_isWanted (s_attempt hm hv hw ht36 hok (fun σ1 he hv1 => ?_))
  have hm1 := hm.ex he (by simp; omega)
  have hvt := hv.no36 ht36 he
  have hP : T 0 1 = doM T k w o s 0 1 := by rw [doM_P]
  rw [hm1.2.1]
  refine ⟨hm1.1, fun q => ⟨tw36, ?_⟩, fun q => ⟨tw36, ?_⟩⟩
  · have e : (!decide (k = 6)) = false := by simp [q]
    rw [e] at hk
    exact s_isWantedSince (a := false) hv1 (hw.doM hok) hvt hw hP (fun z => ⟨by decide, kq (hk σ1 he) (by rw [z]; rfl)⟩) (fun z => ⟨by decide, kq (hk σ1 he) (by rw [z]; rfl)⟩)
  · have e : (!decide (k = 6)) = true := by simp [q]
    rw [e] at hk
    exact s_isWantedSince (a := true) hv1 (hw.doM hok) hvt hw hP (fun z => ⟨by decide, kq (hk σ1 he) (by rw [z]; rfl)⟩) (fun z => ⟨by decide, kq (hk σ1 he) (by rw [z]; rfl)⟩)
theorem s_mayBe {d v t w o s : Nat} {σ T : Sg} {k : Int} {K : Kt} (hm : MO σ v k w o s) (hv : TV σ t T) (hw : WF T) (ht36 : t ≠ 36) (hok : okM T k w o s) (hk : ∀ σ', Ex L36 σ σ' → K (b2i (lawful (doM T k w o s))) σ') : wpCall (d + 6) iX5_mayBe [aR 55, aR t, aR v] σ K := by
  refine bX5_mayBe (s_attempt hm hv hw ht36 hok (fun σ1 he hv1 => ⟨tw36, s_isLawful hv1 (hw.doM hok) (fun q σ2 he2 => ⟨by decide, kq (hk σ2 (he.tr he2 (by simp) (by simp))) (by rw [q]; rfl)⟩) (fun q σ2 he2 => ⟨by decide, kq (hk σ2 (he.tr he2 (by simp) (by simp))) (by rw [q]; rfl)⟩)⟩))
theorem s_isOpen {d v t w o s : Nat} {σ T : Sg} {k : Int} {K : Kt} (hm : MO σ v k w o s) (hv : TV σ t T) (hw : WF T) (ht36 : t ≠ 36) (hok : okM T k w o s) (hk : ∀ σ', Ex L36 σ σ' → TV σ' 36 (doM T k w o s) → K (b2i (opn T k w o s)) σ') : wpCall (d + 6) iX5_isOpen [aR 55, aR t, aR v] σ K := by
  have hr := mve_r hm.1
  refine bX5_isOpen (s_attempt hm hv hw ht36 hok (fun σ1 he hv1 => ?_))
  have hm1 := hm.ex he (by simp; omega)
  have hvt := hv.no36 ht36 he
  have hP : T 0 1 = doM T k w o s 0 1 := by rw [doM_P]
  have hwd := hw.doM hok
  rw [hm1.2.1]
  have tl : ∀ σ2, Ex [36 + 8] σ1 σ2 → Ex L36 σ σ2 ∧ TV σ2 36 (doM T k w o s) := fun σ2 he2 => ⟨he.tr he2 (by simp) (by simp), hv1.ex he2 (fun i hi => by simp; omega)⟩
  refine ⟨hm1.1, fun q => ⟨tw36, ?_⟩, fun q => ⟨tw36, ?_⟩⟩
  · have e : (!decide (k = 6)) = false := by simp [q]
    refine s_isWantedSince (a := false) hv1 hwd hvt hw hP (fun z => br_f2 (by decide) ⟨tw36, s_isLawful hv1 hwd (fun y σ2 he2 => br_f2 (by decide) ⟨by decide, kq (hk σ2 (tl σ2 he2).1 (tl σ2 he2).2) (by simp [opn, e, z, y]; rfl)⟩) (fun y σ2 he2 => br_t2 rfl ⟨by decide, kq (hk σ2 (tl σ2 he2).1 (tl σ2 he2).2) (by simp [opn, y]; rfl)⟩)⟩) (fun z => br_t2 rfl ⟨by decide, kq (hk σ1 he hv1) (by simp [opn, e, z]; rfl)⟩)
  · have e : (!decide (k = 6)) = true := by simp [q]
    refine s_isWantedSince (a := true) hv1 hwd hvt hw hP (fun z => br_f2 (by decide) ⟨tw36, s_isLawful hv1 hwd (fun y σ2 he2 => br_f2 (by decide) ⟨by decide, kq (hk σ2 (tl σ2 he2).1 (tl σ2 he2).2) (by simp [opn, e, z, y]; rfl)⟩) (fun y σ2 he2 => br_t2 rfl ⟨by decide, kq (hk σ2 (tl σ2 he2).1 (tl σ2 he2).2) (by simp [opn, y]; rfl)⟩)⟩) (fun z => br_t2 rfl ⟨by decide, kq (hk σ1 he hv1) (by simp [opn, e, z]; rfl)⟩)
theorem s_moveBecome {d v : Nat} {σ : Sg} {k w o s : Int} {K : Kt} (hv : MVE v) (hk : ∀ σ', Ex [v] σ σ' → MO σ' v k w o s → K 0 σ') : wpCall (d + 1) iX0_become [aR v, aI k, aI w, aI o, aI s] σ K := by
  refine bX0_become ⟨hv, hv, hv, hv, hk _ ((((Ex.rf.up (by simp)).up (by simp)).up (by simp)).up (by simp)) ⟨hv, ?_, ?_, ?_, ?_⟩⟩
  · rw [up_nk (by omega), up_nk (by omega), up_nk (by omega), up_self]
  · rw [up_nk (by omega), up_nk (by omega), up_self]
  · rw [up_nk (by omega), up_self]
  · rw [up_self]
abbrev LOp : List Nat := [36, 37, 38, 39, 40, 41, 42, 43, 44, 56]
theorem s_isOpenAs {d t w o s : Nat} {σ T : Sg} {k : Int} {K : Kt} (hv : TV σ t T) (hw : WF T) (ht36 : t ≠ 36) (hk6 : k ≠ 6) (hok : okM T k w o s) (hk : ∀ σ', Ex LOp σ σ' → (opn T k w o s = true → K 1 σ') ∧ (opn T k w o s = false → K 0 σ')) : wpCall (d + 6) iX5_isOpenAs [aR 55, aR t, aI k, aI (w : Nat), aI (o : Nat), aI (s : Nat)] σ K := by
  refine bX5_isOpenAs ⟨rfl, s_moveBecome (show MVE 56 from rfl) (fun σ0 h0 hm => ?_)⟩
  have hv0 : TV σ0 t T := hv.ex h0 (fun i hi => by have := tw_le hv.1; simp; omega)
  refine s_attempt hm hv0 hw ht36 hok (fun σ1 he hv1 => ⟨tw36, ?_⟩)
  have hvt := hv0.no36 ht36 he
  have hP : T 0 1 = doM T k w o s 0 1 := by rw [doM_P]
  have hwd := hw.doM hok
  have e : (!decide (k = 6)) = true := by simp [hk6]
  have t1 : Ex LOp σ σ1 := h0.tr he (by simp) (by simp)
  have t2 : ∀ σ2, Ex [36 + 8] σ1 σ2 → Ex LOp σ σ2 := fun σ2 he2 => t1.tr he2 (fun _ h => h) (by simp)
  refine s_isWantedSince (a := true) hv1 hwd hvt hw hP (fun z => br_f2 (by decide) ⟨tw36, s_isLawful hv1 hwd (fun y σ2 he2 => br_f2 (by decide) ⟨by decide, (hk σ2 (t2 σ2 he2)).1 (by simp [opn, e, z, y])⟩) (fun y σ2 he2 => br_t2 rfl ⟨by decide, (hk σ2 (t2 σ2 he2)).2 (by simp [opn, y])⟩)⟩) (fun z => br_t2 rfl ⟨by decide, (hk σ1 t1).2 (by simp [opn, e, z])⟩)
def anyI (f : Nat → Bool) : Nat → Nat → Bool
  | 0, _ => false
  | k + 1, i => f i || anyI f k (i + 1)
def opS (T : Sg) (w s : Nat) : Bool := opn T 1 w w s || opn T 3 w w s
def opW (T : Sg) (w : Nat) : Bool := anyI (opS T w) (nS T) 0 || anyI (fun o => opn T 2 w o 0) w 0
theorem s_anyOpen {d t : Nat} {σ T : Sg} {K : Kt} (hv : TV σ t T) (hw : WF T) (ht36 : t ≠ 36) (hk : ∀ σ', Ex LOp σ σ' → (anyI (opW T) (nP T) 0 = true → K 1 σ') ∧ (anyI (opW T) (nP T) 0 = false → K 0 σ')) : wpCall (d + 7) iX5_anyOpen [aR 55, aR t] σ K := by
  obtain ⟨ht, ⟨e0, e3, e9, e10, e11⟩, eh, ew, ep⟩ := id hv
  obtain ⟨l1, l2, l3, l4, l5, l6, l7, l8⟩ := tw_len ht
  obtain ⟨⟨⟨a1, a2⟩, ⟨a3, a4⟩, ⟨a5, a6⟩, ⟨a7, a8⟩, a9⟩, wh, ww, wp⟩ := id hw
  have hnP : ((nP T : Nat) : Int) = T 0 1 := Int.toNat_of_nonneg a3
  have hnS : ((nS T : Nat) : Int) = T 0 0 := Int.toNat_of_nonneg a1
  have tv : ∀ {σ1}, Ex LOp σ σ1 → TV σ1 t T := fun h => hv.ex h (fun i hi => by
    rcases tw_cases ht with rfl | rfl | rfl | rfl | rfl
    all_goals simp
    all_goals omega)
  have key : ∀ k w : Nat, w + k = nP T → ∀ σ1, Ex LOp σ σ1 → (∀ σ', Ex LOp σ σ' → (anyI (opW T) k w = true → K 1 σ') ∧ (anyI (opW T) k w = false → K 0 σ')) → wpL (wpCall (d + 6)) mX5_anyOpen K 2 [aR 55, aR t, aI (w : Nat), aU] [] σ1 := by
    intro k
    induction k with
    | zero =>
      intro w hp σ1 he g
      obtain ⟨-, ⟨f0, f3, -⟩, -⟩ := tv he
      exact bX5_anyOpen_2 ⟨ht, fun h => absurd h (by omega), fun _ => ⟨by decide, (g σ1 he).2 rfl⟩⟩
    | succ k ih =>
      intro w hp σ1 he g
      obtain ⟨-, ⟨f0, f3, -⟩, -⟩ := tv he
      refine bX5_anyOpen_2 ⟨ht, fun _ => ?_, fun h => absurd h (by omega)⟩
      have kw : ∀ m o : Nat, o + m = w → ∀ σ2, Ex LOp σ σ2 → (∀ σ', Ex LOp σ σ' → (anyI (fun o => opn T 2 w o 0) m o = true → K 1 σ')) → (anyI (fun o => opn T 2 w o 0) m o = false → ∀ σ', Ex LOp σ σ' → (anyI (opW T) k (w + 1) = true → K 1 σ') ∧ (anyI (opW T) k (w + 1) = false → K 0 σ')) → wpL (wpCall (d + 6)) mX5_anyOpen K 54 [aR 55, aR t, aI (w : Nat), aI (o : Nat)] [] σ2 := by
        intro m
        induction m with
        | zero =>
          intro o ho σ2 he2 q1 q0
          refine bX5_anyOpen_54 ⟨fun h => absurd h (by omega), fun _ => ?_⟩
          rw [wr1 (by omega)]
          exact ih (w + 1) (by omega) σ2 he2 (q0 rfl)
        | succ m ihm =>
          intro o ho σ2 he2 q1 q0
          refine bX5_anyOpen_54 ⟨fun _ => s_isOpenAs (s := 0) (tv he2) hw ht36 (by decide) ⟨by omega, fun _ => by omega, fun z => absurd (Or.inr (Or.inr rfl)) z⟩ (fun σ3 he3 => ⟨fun y => br_f2 (by decide) ⟨by decide, q1 σ3 (he2.tr he3 (fun _ h => h) (fun _ h => h)) (by simp [anyI, y])⟩, fun y => br_t2 rfl ?_⟩), fun h => absurd h (by omega)⟩
          rw [wr1 (by omega)]
          exact ihm (o + 1) (by omega) σ3 (he2.tr he3 (fun _ h => h) (fun _ h => h)) (fun σ' h' z => q1 σ' h' (by simp [anyI, z])) (fun z => q0 (by simp [anyI, y, z]))
      have ks : ∀ m s : Nat, s + m = nS T → ∀ σ2, Ex LOp σ σ2 → (∀ σ', Ex LOp σ σ' → (anyI (opS T w) m s = true → K 1 σ')) → (anyI (opS T w) m s = false → ∀ σ2, Ex LOp σ σ2 → wpL (wpCall (d + 6)) mX5_anyOpen K 54 [aR 55, aR t, aI (w : Nat), aI 0] [] σ2) → wpL (wpCall (d + 6)) mX5_anyOpen K 12 [aR 55, aR t, aI (w : Nat), aI (s : Nat)] [] σ2 := by
        intro m
        induction m with
        | zero =>
          intro s hs σ2 he2 q1 q0
          obtain ⟨-, ⟨g0, g3, -⟩, -⟩ := tv he2
          exact bX5_anyOpen_12 ⟨ht, fun h => absurd h (by omega), fun _ => q0 rfl σ2 he2⟩
        | succ m ihm =>
          intro s hs σ2 he2 q1 q0
          obtain ⟨-, ⟨g0, g3, -⟩, -⟩ := tv he2
          refine bX5_anyOpen_12 ⟨ht, fun _ => s_isOpenAs (tv he2) hw ht36 (by decide) ⟨by omega, fun _ => by omega, fun _ => by omega⟩ (fun σ3 he3 => ⟨fun y => br_f2 (by decide) ⟨by decide, q1 σ3 (he2.tr he3 (fun _ h => h) (fun _ h => h)) (by simp [anyI, opS, y])⟩, fun y => br_t2 rfl ?_⟩), fun h => absurd h (by omega)⟩
          have he3' := he2.tr he3 (fun _ h => h) (fun _ h => h)
          refine s_isOpenAs (tv he3') hw ht36 (by decide) ⟨by omega, fun _ => by omega, fun _ => by omega⟩ (fun σ4 he4 => ⟨fun y2 => br_f2 (by decide) ⟨by decide, q1 σ4 (he3'.tr he4 (fun _ h => h) (fun _ h => h)) (by simp [anyI, opS, y2])⟩, fun y2 => br_t2 rfl ?_⟩)
          rw [wr1 (by omega)]
          exact ihm (s + 1) (by omega) σ4 (he3'.tr he4 (fun _ h => h) (fun _ h => h)) (fun σ' h' z => q1 σ' h' (by simp [anyI, z])) (fun z => q0 (by simp [anyI, opS, y, y2, z]))
      refine ks (nS T) 0 (by omega) σ1 he (fun σ' h' z => (g σ' h').1 (by simp [anyI, opW, z])) (fun z σ2 he2 => ?_)
      exact kw w 0 (by omega) σ2 he2 (fun σ' h' z2 => (g σ' h').1 (by simp [anyI, opW, z2])) (fun z2 σ' h' => ⟨fun z3 => (g σ' h').1 (by simp [anyI, z3]), fun z3 => (g σ' h').2 (by simp [anyI, opW, z, z2, z3])⟩)
  exact bX5_anyOpen (key (nP T) 0 (by omega) σ Ex.rf hk)
