/-! THE CLASS DOES WHAT IT READ -/
abbrev L8 (t : Nat) : List Nat := [t, t + 1, t + 2, t + 3, t + 4, t + 5, t + 6, t + 7]
def DOq (σ : Sg) (t : Nat) (K : Kt) (o : Option Sg) : Prop := match o with
  | none => K 0 σ
  | some T' => ∀ σ', Ex (L8 t) σ σ' → TV σ' t T' → CX σ' t → K 1 σ'
theorem WF_doS {l : Int} {n p : Nat} {R : RSt} {T T' : Sg} (hw : WF T) (hr : RK l n p R) (hok : R.ok = true) (h : doS l R T = some T') : WF T' := by
  obtain ⟨h6, -, -, ha, ha9, hb, hc, hs, hh⟩ := hr.2 hok
  have w0 := hw.1.1
  have w1 := hw.1.2.1
  unfold doS at h
  by_cases q1 : l = 115
  · rw [if_pos q1] at h
    by_cases c1 : (1 ≤ R.a ∧ R.a ≤ 4) ∧ T 0 0 < 5
    · rw [if_pos c1] at h; cases h; exact WF_tStr hw c1.2 c1.1
    · rw [if_neg c1] at h; cases h
  rw [if_neg q1] at h
  by_cases q2 : l = 121
  · rw [if_pos q2] at h
    by_cases c1 : (R.a < T 0 0 ∧ R.b < T 0 0) ∧ R.a ≠ R.b
    · rw [if_pos c1] at h; cases h; exact WF_tWay hw (by omega) (by omega) (by omega) (by have := hr.2 hok; omega)
    · rw [if_neg c1] at h; cases h
  rw [if_neg q2] at h
  by_cases q3 : l = 112
  · rw [if_pos q3] at h
    by_cases c1 : (T 0 1 < 8 ∧ (R.a = -4 ∨ R.a < T 0 1)) ∧ bAnd R.hid (bXor R.set (-1)) = 0
    · rw [if_pos c1] at h; cases h; exact WF_tPer hw c1.1.1 hs hh (by have := c1.1.2; omega)
    · rw [if_neg c1] at h; cases h
  rw [if_neg q3] at h
  by_cases q4 : l = 119
  · rw [if_pos q4] at h
    by_cases c1 : R.a < T 0 1 ∧ R.b < T 0 0
    · rw [if_pos c1] at h; cases h; exact WF_tWish hw (by omega) (by omega)
    · rw [if_neg c1] at h; cases h
  rw [if_neg q4] at h
  by_cases q5 : l = 108
  · rw [if_pos q5] at h
    by_cases c1 : 1 ≤ R.a ∧ R.a ≤ 3
    · rw [if_pos c1] at h; cases h; exact WF_tLaw hw c1 hb hs
    · rw [if_neg c1] at h; cases h
  rw [if_neg q5] at h
  by_cases c1 : R.a < T 0 1 ∧ R.b < T 0 0
  · rw [if_pos c1] at h; cases h; exact WF_tLive hw (by omega)
  · rw [if_neg c1] at h; cases h
theorem Ex.in {l : List Nat} {σ σ1 : Sg} {a : Nat} (h : Ex l σ σ1) (ha : a ∉ l) (k : Nat) : σ1 a k = σ a k := h a ha k
theorem s_doStreet {d t n p : Nat} {R : RSt} {σ T : Sg} {K : Kt} (hv : TV σ t T) (hw : WF T) (hx : CX σ t) (hf : FLD σ 115 R) (hr : RK 115 n p R) (hok : R.ok = true) (hQ : DOq σ t K (doS 115 R T)) : wpCall (d + 3) iX4_doStreet [aR 46, aR t] σ K := by
  obtain ⟨h6, -, -, ha, ha9, hb, hc, hs, hh⟩ := hr.2 hok
  obtain ⟨f3, f4, -⟩ := hf
  unfold doS at hQ
  rw [if_pos rfl] at hQ
  refine bX4_doStreet ?_
  rw [f4]
  refine ⟨fun q => ⟨by decide, ?_⟩, fun q => ⟨fun q2 => ⟨by decide, ?_⟩, fun q2 => ⟨hv.1, s_hasRoomForStreet hv (fun q3 => ⟨fun z => absurd z (by decide), fun _ => ⟨hv.1, ?_⟩⟩) (fun q3 => ⟨fun _ => ⟨by decide, ?_⟩, fun z => absurd rfl z⟩)⟩⟩⟩
  · rw [if_neg (by omega)] at hQ; exact hQ
  · rw [if_neg (by omega)] at hQ; exact hQ
  · rw [if_pos (by omega)] at hQ
    rw [f4]
    exact s_addStreet hv hw hx q3 (fun σ' he' hv' hx' => ⟨by decide, hQ σ' (he'.mono (by simp)) hv' hx'⟩)
  · rw [if_neg (by omega)] at hQ; exact hQ
theorem s_doWay {d t n p : Nat} {R : RSt} {σ T : Sg} {K : Kt} (hv : TV σ t T) (hw : WF T) (hx : CX σ t) (hf : FLD σ 121 R) (hr : RK 121 n p R) (hok : R.ok = true) (hQ : DOq σ t K (doS 121 R T)) : wpCall (d + 2) iX4_doWay [aR 46, aR t] σ K := by
  obtain ⟨h6, -, -, ha, ha9, hb, hc, hs, hh⟩ := hr.2 hok
  obtain ⟨f3, f4, f5, f6, -⟩ := hf
  have f5 := f5 (by decide)
  have f6 := f6 (by decide)
  have w5 := hw.1.1
  have ht := hv.1
  unfold doS at hQ
  rw [if_neg (by decide), if_pos rfl] at hQ
  refine bX4_doWay ?_
  rw [f4]
  refine ⟨ht, s_hasStreet hv (fun q q2 => ⟨fun z => absurd z (by decide), fun _ => ⟨ht, ?_⟩⟩) (fun q => ⟨fun _ => ⟨by decide, ?_⟩, fun z => absurd rfl z⟩)⟩
  · rw [f5]
    refine s_hasStreet hv (fun q3 q4 => ⟨fun z => absurd z (by decide), fun _ => ?_⟩) (fun q => ⟨fun _ => ⟨by decide, ?_⟩, fun z => absurd rfl z⟩)
    · rw [f4, f5, f6]
      refine ⟨fun q5 => ⟨by decide, ?_⟩, fun q5 => ⟨ht, ?_⟩⟩
      · rw [if_neg (by omega)] at hQ; exact hQ
      · rw [if_pos (by omega)] at hQ
        have na : R.a = (R.a.toNat : Nat) := by omega
        have nb : R.b = (R.b.toNat : Nat) := by omega
        have := s_setMinutes (d := d) (t := t) (a := R.a.toNat) (b := R.b.toNat) (v := R.c) (σ := σ) (K := fun r s1 => ((1 : Int) = 0 ∨ (1 : Int) = 1) ∧ K 1 s1) ht (by omega) (by omega) ⟨by decide, hQ _ ((Ex.rf.up (by simp)).up (by simp)) (TV_tWay hv (by omega) (by omega) (by omega)) (CX_tWay hx (by omega) (by omega) (by omega))⟩
        rw [← na, ← nb] at this
        exact this
    · rw [if_neg (by omega)] at hQ; exact hQ
  · rw [if_neg (by omega)] at hQ; exact hQ
theorem s_doWish {d t n p : Nat} {R : RSt} {σ T : Sg} {K : Kt} (hv : TV σ t T) (hw : WF T) (hx : CX σ t) (hf : FLD σ 119 R) (hr : RK 119 n p R) (hok : R.ok = true) (hQ : DOq σ t K (doS 119 R T)) : wpCall (d + 2) iX4_doWish [aR 46, aR t] σ K := by
  obtain ⟨h6, -, -, ha, ha9, hb, hc, hs, hh⟩ := hr.2 hok
  obtain ⟨f3, f4, f5, f6, -⟩ := hf
  have f5 := f5 (by decide)
  have f6 := f6 (by decide)
  have w5 := hw.1.1
  have w8 := hw.1.2.1
  have ht := hv.1
  unfold doS at hQ
  rw [if_neg (by decide), if_neg (by decide), if_neg (by decide), if_pos rfl] at hQ
  refine bX4_doWish ?_
  rw [f4]
  refine ⟨ht, s_hasPerson hv (fun q q2 => ⟨fun z => absurd z (by decide), fun _ => ⟨ht, ?_⟩⟩) (fun q => ⟨fun _ => ⟨by decide, ?_⟩, fun z => absurd rfl z⟩)⟩
  · rw [f5]
    refine s_hasStreet hv (fun q3 q4 => ⟨fun z => absurd z (by decide), fun _ => ⟨ht, ?_⟩⟩) (fun q => ⟨fun _ => ⟨by decide, ?_⟩, fun z => absurd rfl z⟩)
    · rw [f4, f5, f6]
      rw [if_pos (by omega)] at hQ
      have na : R.a = (R.a.toNat : Nat) := by omega
      have nb : R.b = (R.b.toNat : Nat) := by omega
      have := s_setWish (d := d) (t := t) (p := R.a.toNat) (s := R.b.toNat) (v := R.c) (σ := σ) (K := fun r s1 => ((1 : Int) = 0 ∨ (1 : Int) = 1) ∧ K 1 s1) ht (by omega) (by omega) ⟨by decide, hQ _ (Ex.rf.up (by simp)) (TV_tWish hv) (hx.ex (l := [t + 6]) (Ex.rf.up (by simp)) (by simp))⟩
      rw [← na, ← nb] at this
      exact this
    · rw [if_neg (by omega)] at hQ; exact hQ
  · rw [if_neg (by omega)] at hQ; exact hQ
theorem s_doLaw {d t n p : Nat} {R : RSt} {σ T : Sg} {K : Kt} (hv : TV σ t T) (hw : WF T) (hx : CX σ t) (hf : FLD σ 108 R) (hr : RK 108 n p R) (hok : R.ok = true) (hQ : DOq σ t K (doS 108 R T)) : wpCall (d + 2) iX4_doLaw [aR 46, aR t] σ K := by
  obtain ⟨h6, -, -, ha, ha9, hb, hc, hs, hh⟩ := hr.2 hok
  obtain ⟨f3, f4, f5, -, f7, -⟩ := hf
  have f5 := f5 (by decide)
  have f7 := f7 (by decide)
  have ht := hv.1
  have ht46 : (46 : Nat) ≠ t := by have := tw_cases ht; omega
  unfold doS at hQ
  rw [if_neg (by decide), if_neg (by decide), if_neg (by decide), if_neg (by decide), if_pos rfl] at hQ
  refine bX4_doLaw ?_
  rw [f4]
  refine bX6_isEach ⟨fun q => ⟨by decide, fun _ => ⟨by decide, ?_⟩, fun z => absurd rfl z⟩, fun q => ⟨fun q2 => ⟨by decide, fun _ => ⟨by decide, ?_⟩, fun z => absurd rfl z⟩, fun q2 => ⟨by decide, fun z => absurd z (by decide), fun _ => ?_⟩⟩⟩
  · rw [if_neg (by omega)] at hQ; exact hQ
  · rw [if_neg (by omega)] at hQ; exact hQ
  · rw [if_pos (by omega)] at hQ
    rw [f5]
    refine bX6_isNear ⟨fun q => by omega, fun q => ⟨fun q2 => by omega, fun q2 => ⟨by decide, fun z => absurd z (by decide), fun _ => ⟨ht, ht, ht, by decide, ?_⟩⟩⟩⟩
    rw [f4, up_ne ht46, up_ne ht46, up_ne ht46, f5, f7]
    exact hQ _ (((Ex.rf.up (by simp)).up (by simp)).up (by simp)) (TV_tLaw hv) (hx.ex (l := [t]) (((Ex.rf.up (by simp)).up (by simp)).up (by simp)) (by simp))
theorem s_doLives {d t n p : Nat} {l : Int} {R : RSt} {σ T : Sg} {K : Kt} (hv : TV σ t T) (hw : WF T) (hx : CX σ t) (hl : l = 105) (hf : FLD σ l R) (hr : RK l n p R) (hok : R.ok = true) (hQ : DOq σ t K (doS l R T)) : wpCall (d + 2) iX4_doLives [aR 46, aR t] σ K := by
  subst hl
  obtain ⟨h6, -, -, ha, ha9, hb, hc, hs, hh⟩ := hr.2 hok
  obtain ⟨f3, f4, f5, -⟩ := hf
  have f5 := f5 (by decide)
  have w5 := hw.1.1
  have w8 := hw.1.2.1
  have ht := hv.1
  obtain ⟨l1, l2, l3, l4, l5, l6, l7, l8⟩ := tw_len ht
  unfold doS at hQ
  rw [if_neg (by decide), if_neg (by decide), if_neg (by decide), if_neg (by decide), if_neg (by decide)] at hQ
  refine bX4_doLives ?_
  rw [f4]
  refine ⟨ht, s_hasPerson hv (fun q q2 => ⟨fun z => absurd z (by decide), fun _ => ⟨ht, ?_⟩⟩) (fun q => ⟨fun _ => ⟨by decide, ?_⟩, fun z => absurd rfl z⟩)⟩
  · rw [f5]
    refine s_hasStreet hv (fun q3 q4 => ⟨fun z => absurd z (by decide), fun _ => ?_⟩) (fun q => ⟨fun _ => ⟨by decide, ?_⟩, fun z => absurd rfl z⟩)
    · rw [f4, f5]
      rw [if_pos (by omega)] at hQ
      exact ⟨ht, by omega, by omega, by decide, hQ _ (Ex.rf.up (by simp)) (TV_tLive hv) (hx.ex (l := [t + 7]) (Ex.rf.up (by simp)) (by simp))⟩
    · rw [if_neg (by omega)] at hQ; exact hQ
  · rw [if_neg (by omega)] at hQ; exact hQ
theorem s_doPerson {d t n p : Nat} {R : RSt} {σ T : Sg} {K : Kt} (hv : TV σ t T) (hw : WF T) (hx : CX σ t) (hf : FLD σ 112 R) (hr : RK 112 n p R) (hok : R.ok = true) (hQ : DOq σ t K (doS 112 R T)) : wpCall (d + 3) iX4_doPerson [aR 46, aR t] σ K := by
  obtain ⟨h6, -, -, ha, ha9, hb, hc, hs, hh⟩ := hr.2 hok
  obtain ⟨f3, f4, -, -, f7, f8⟩ := hf
  have f7 := f7 (by decide)
  have f8 := f8 (by decide)
  have ht := hv.1
  unfold doS at hQ
  rw [if_neg (by decide), if_neg (by decide), if_pos rfl] at hQ
  refine bX4_doPerson ?_
  have tail : (R.a = -4 ∨ R.a < T 0 1) → T 0 1 < 8 → (bAnd (σ 46 8) (bXor (σ 46 7) (-1)) = 0 → TW t ∧ wpCall (d + 2) iX3_addPerson [aR t, aI (σ 46 7), aI (σ 46 4), aI (σ 46 8)] σ (fun r2 s2 => ((1 : Int) = 0 ∨ (1 : Int) = 1) ∧ K 1 s2)) ∧ (¬ bAnd (σ 46 8) (bXor (σ 46 7) (-1)) = 0 → ((0 : Int) = 0 ∨ (0 : Int) = 1) ∧ K 0 σ) := by
    intro h1 h2
    rw [f4, f7, f8]
    refine ⟨fun g => ⟨ht, ?_⟩, fun g => ⟨by decide, ?_⟩⟩
    · rw [if_pos ⟨⟨h2, h1⟩, g⟩] at hQ
      exact s_addPerson (d := d) hv hw h2 (fun σ' he' hv' => ⟨by decide, hQ σ' (he'.mono (by simp)) hv' (hx.ex he' (by simp))⟩)
    · rw [if_neg (fun z => g z.2)] at hQ; exact hQ
  have no : ¬ (T 0 1 < 8 ∧ (R.a = -4 ∨ R.a < T 0 1)) → ((0 : Int) = 0 ∨ (0 : Int) = 1) ∧ K 0 σ := fun g => by
    rw [if_neg (fun z => g z.1)] at hQ
    exact ⟨by decide, hQ⟩
  rw [← f4] at no tail
  refine ⟨fun q => ⟨ht, s_hasRoomForPerson hv (fun q2 => ⟨fun z => absurd z (by decide), fun _ => ⟨fun _ => tail (Or.inl q) q2, fun z => absurd rfl z⟩⟩) (fun q2 => ⟨fun _ => no (by omega), fun z => absurd rfl z⟩)⟩, fun q => ⟨ht, s_hasPerson hv (fun q2 q3 => ⟨fun z => absurd z (by decide), fun _ => ⟨ht, s_hasRoomForPerson hv (fun q2 => ⟨fun z => absurd z (by decide), fun _ => ⟨fun _ => tail (Or.inr q3) q2, fun z => absurd rfl z⟩⟩) (fun q2 => ⟨fun _ => no (by omega), fun z => absurd rfl z⟩)⟩⟩) (fun q2 => ⟨fun _ => ⟨ht, s_hasRoomForPerson hv (fun q3 => ⟨fun z => absurd z (by decide), fun _ => ⟨fun z => absurd z (by decide), fun _ => no (by omega)⟩⟩) (fun q3 => ⟨fun _ => no (by omega), fun z => absurd rfl z⟩)⟩, fun z => absurd rfl z⟩)⟩⟩
