/-! THE MODEL'S LAW -/
theorem bit01 {x : Int} {c : Nat} (hx : U8 x) (hc : c < 8) : (bAnd (bShr x c) 1 = 0 ↔ bit x c = false) ∧ (bAnd (bShr x c) 1 = 1 ↔ bit x c = true) := by
  obtain ⟨n, hn, rfl⟩ := U8_nat hx
  have key : ∀ n, n < 256 → ∀ c, c < 8 → (bAnd (bShr (Int.ofNat n) (Int.ofNat c)) 1 = 0 ↔ bit (Int.ofNat n) c = false) ∧ (bAnd (bShr (Int.ofNat n) (Int.ofNat c)) 1 = 1 ↔ bit (Int.ofNat n) c = true) := by decide +kernel
  exact key n hn c hc
theorem m_wayOf {d x y : Nat} {σ T : Sg} {K : Kt} (hv : MV σ 86 T) (hw : WF T) (hx : (x : Int) < T 0 0) (hy : (y : Int) < T 0 0) (hk : K (T 2 (5 * x + y)) σ) : wpCall (d + 1) iX7_wayOf [aR 85, aI (x : Nat), aI (y : Nat)] σ K := by
  obtain ⟨⟨e0, e1, e2, e3, e4⟩, eh, ew, ep⟩ := id hv
  obtain ⟨⟨⟨a1, a2⟩, ⟨a3, a4⟩, ⟨a5, a6⟩, ⟨a7, a8⟩, a9⟩, wh, ww, wp⟩ := id hw
  have hnP : ((nP T : Nat) : Int) = T 0 1 := Int.toNat_of_nonneg a3
  have hnS : ((nS T : Nat) : Int) = T 0 0 := Int.toNat_of_nonneg a1
  have l86 : LEN 86 = 107 := rfl
  refine bX7_wayOf ?_
  rw [ixw (by omega) (by omega), Int.toNat_natCast, ew x y hx hy]
  exact ⟨by omega, by omega, hk⟩
theorem m_counts {d x y : Nat} {σ T : Sg} {K : Kt} (hv : MV σ 86 T) (hw : WF T) (hx : (x : Int) < T 0 0) (hy : (y : Int) < T 0 0) (h1 : tog T y x = true → K 1 σ) (h0 : tog T y x = false → K 0 σ) : wpCall (d + 2) iX7_counts [aR 85, aI (x : Nat), aI (y : Nat)] σ K := by
  obtain ⟨⟨e0, e1, e2, e3, e4⟩, eh, ew, ep⟩ := id hv
  obtain ⟨⟨⟨a1, a2⟩, ⟨a3, a4⟩, ⟨a5, a6⟩, ⟨a7, a8⟩, a9⟩, wh, ww, wp⟩ := id hw
  have hnP : ((nP T : Nat) : Int) = T 0 1 := Int.toNat_of_nonneg a3
  have hnS : ((nS T : Nat) : Int) = T 0 0 := Int.toNat_of_nonneg a1
  have l86 : LEN 86 = 107 := rfl
  have sy := (ww x y hx hy).2.1
  have nn := (ww x y hx hy).1
  refine bX7_counts ⟨fun q => ⟨by decide, h1 (by simp [tog]; omega)⟩, fun q => ⟨by omega, by omega, ?_⟩⟩
  rw [e3]
  refine ⟨fun q2 => m_wayOf hv hw hx hy ?_, fun q2 => ⟨by decide, h0 (by simp [tog]; omega)⟩⟩
  rw [e3]
  exact ⟨by omega, by omega, fun q3 => ⟨by decide, h1 (by simp [tog]; omega)⟩, fun q3 => ⟨by decide, h0 (by simp [tog]; omega)⟩⟩
theorem m_areTied {d : Nat} {σ T : Sg} {K : Kt} (hv : MV σ 86 T) (hw : WF T) (h1 : ties T = true → K 1 σ) (h0 : ties T = false → K 0 σ) : wpCall (d + 2) iX7_areTied [aR 85] σ K := by
  obtain ⟨⟨e0, e1, e2, e3, e4⟩, eh, ew, ep⟩ := id hv
  obtain ⟨⟨⟨a1, a2⟩, ⟨a3, a4⟩, ⟨a5, a6⟩, ⟨a7, a8⟩, a9⟩, wh, ww, wp⟩ := id hw
  have hnP : ((nP T : Nat) : Int) = T 0 1 := Int.toNat_of_nonneg a3
  have hnS : ((nS T : Nat) : Int) = T 0 0 := Int.toNat_of_nonneg a1
  have l86 : LEN 86 = 107 := rfl
  have key : ∀ k p : Nat, p + k = nP T → (allI (tieOK T) k p = true → K 1 σ) → (allI (tieOK T) k p = false → K 0 σ) → wpL (wpCall (d + 1)) mX7_areTied K 2 [aR 85, aI (p : Nat), aU] [] σ := by
    intro k
    induction k with
    | zero => exact fun p hp g1 g0 => bX7_areTied_2 ⟨by omega, by omega, fun h => absurd h (by omega), fun _ => ⟨by decide, g1 rfl⟩⟩
    | succ k ih =>
      intro p hp g1 g0
      have w := (wp p (by omega)).2.2.1
      have w7 := (wp p (by omega)).2.2.2.1
      have next : tieOK T p = true → wpL (wpCall (d + 1)) mX7_areTied K 2 [aR 85, aI (wr ((p : Int) + 1)), aU] [] σ := fun q => by
        rw [wr1 (by omega)]
        exact ih (p + 1) (by omega) (fun z => g1 (by simp [allI, q, z])) (fun z => g0 (by simp [allI, q, z]))
      refine bX7_areTied_2 ⟨by omega, by omega, fun _ => m_ti hv (by omega) (by omega) ⟨fun q => next (by simp [tieOK]; omega), fun q => ?_⟩, fun h => absurd h (by omega)⟩
      obtain ⟨o, ho⟩ : ∃ o : Nat, T 5 p = o := ⟨(T 5 p).toNat, by omega⟩
      have w7o := (wp o (by omega)).2.2.2.1
      have hlp : lv (T 7 p) < 0 ↔ T 7 p = 9 := by unfold lv; split <;> omega
      have hlo : lv (T 7 o) < 0 ↔ T 7 o = 9 := by unfold lv; split <;> omega
      rw [ho]
      refine m_at hv (by omega) (by omega) ⟨fun q2 => next (by simp [tieOK, hlp.1 q2]), fun q2 => m_at hv (by omega) (by omega) ⟨fun q3 => next (by simp [tieOK, ho, hlo.1 q3]), fun q3 => m_at hv (by omega) (by omega) (m_at hv (by omega) (by omega) ⟨fun q4 => next ?_, fun q4 => ⟨by decide, g0 ?_⟩⟩)⟩⟩
      · have a1 : ¬ T 7 p = 9 := fun z => q2 (hlp.2 z)
        have a2 : ¬ T 7 o = 9 := fun z => q3 (hlo.2 z)
        unfold lv at q4
        rw [if_neg a1, if_neg a2] at q4
        simp [tieOK, ho, q4]
      · have a1 : ¬ T 7 p = 9 := fun z => q2 (hlp.2 z)
        have a2 : ¬ T 7 o = 9 := fun z => q3 (hlo.2 z)
        unfold lv at q4
        rw [if_neg a1, if_neg a2] at q4
        have : tieOK T p = false := by simp [tieOK, ho, q4, a1, a2]
        simp [allI, this]
  exact bX7_areTied (key (nP T) 0 (by omega) h1 h0)
