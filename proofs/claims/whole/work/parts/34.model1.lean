/-! THE MODEL'S COUNTS -/
theorem ixg {p k : Nat} (h : p < 9) (hk : k < 9) : wr (wr (35 + wr (9 * (p : Int))) + (k : Int)) = ((35 + 9 * p + k : Nat) : Int) := by unfold wr; push_cast; omega
theorem m_get {d p k : Nat} {σ : Sg} {K : Kt} (hp : p < 8) (hk9 : k < 9) (hk : K (σ 86 (35 + 9 * p + k)) σ) : wpCall (d + 1) iX7_get [aR 85, aI (p : Nat), aI (k : Nat)] σ K := by
  have l86 : LEN 86 = 107 := rfl
  refine bX7_get ?_
  rw [ixg (by omega) hk9, Int.toNat_natCast]
  exact ⟨by omega, by omega, hk⟩
theorem lv_eq {x s : Int} (h : 0 ≤ s ∧ s < 9) : lv x = s ↔ x = s := by
  unfold lv
  split <;> constructor <;> intro g <;> omega
theorem m_at {d p : Nat} {σ T : Sg} {K : Kt} (hv : MV σ 86 T) (hp : (p : Int) < T 0 1) (h8 : T 0 1 ≤ 8) (hk : K (lv (T 7 p)) σ) : wpCall (d + 1) iX7_get [aR 85, aI (p : Nat), aI 3] σ K :=
  m_get (k := 3) (by omega) (by omega) (by
    rw [show 35 + 9 * p + 3 = 38 + 9 * p by omega, (hv.2.2.2 p hp).2.2.2.1]; exact hk)
theorem m_cr {d p : Nat} {σ T : Sg} {K : Kt} (hv : MV σ 86 T) (hp : (p : Int) < T 0 1) (h8 : T 0 1 ≤ 8) (hk : K (T 3 p) σ) : wpCall (d + 1) iX7_get [aR 85, aI (p : Nat), aI 0] σ K :=
  m_get (k := 0) (by omega) (by omega) (by
    rw [show 35 + 9 * p + 0 = 35 + 9 * p by omega, (hv.2.2.2 p hp).1]; exact hk)
theorem m_hd {d p : Nat} {σ T : Sg} {K : Kt} (hv : MV σ 86 T) (hp : (p : Int) < T 0 1) (h8 : T 0 1 ≤ 8) (hk : K (T 4 p) σ) : wpCall (d + 1) iX7_get [aR 85, aI (p : Nat), aI 1] σ K :=
  m_get (k := 1) (by omega) (by omega) (by
    rw [show 35 + 9 * p + 1 = 36 + 9 * p by omega, (hv.2.2.2 p hp).2.1]; exact hk)
theorem m_ti {d p : Nat} {σ T : Sg} {K : Kt} (hv : MV σ 86 T) (hp : (p : Int) < T 0 1) (h8 : T 0 1 ≤ 8) (hk : K (T 5 p) σ) : wpCall (d + 1) iX7_get [aR 85, aI (p : Nat), aI 2] σ K :=
  m_get (k := 2) (by omega) (by omega) (by
    rw [show 35 + 9 * p + 2 = 37 + 9 * p by omega, (hv.2.2.2 p hp).2.2.1]; exact hk)
theorem m_manyIn {d : Nat} {s : Int} {σ T : Sg} {K : Kt} (hv : MV σ 86 T) (hw : WF T) (hs : 0 ≤ s ∧ s < 9) (hk : K (crowd T s) σ) : wpCall (d + 2) iX7_manyIn [aR 85, aI s] σ K := by
  obtain ⟨⟨e0, e1, e2, e3, e4⟩, eh, ew, ep⟩ := id hv
  obtain ⟨⟨⟨a1, a2⟩, ⟨a3, a4⟩, ⟨a5, a6⟩, ⟨a7, a8⟩, a9⟩, wh, ww, wp⟩ := id hw
  have hnP : ((nP T : Nat) : Int) = T 0 1 := Int.toNat_of_nonneg a3
  have hnS : ((nS T : Nat) : Int) = T 0 0 := Int.toNat_of_nonneg a1
  have l86 : LEN 86 = 107 := rfl
  refine bX7_manyIn (dwn (W := fun p => wpL (wpCall (d + 1)) mX7_manyIn K 4 [aR 85, aI s, aI (cnt (fun p => decide (T 7 p = s)) p), aI (p : Nat)] [] σ) (nP T) ?_ (fun p hp ih => ?_) 0 (Nat.zero_le _))
  · exact bX7_manyIn_4 ⟨by omega, by omega, fun h => absurd h (by omega), fun _ => hk⟩
  · have r := cnt_r (fun p => decide (T 7 p = s)) p
    refine bX7_manyIn_4 ⟨by omega, by omega, fun h => m_at hv (by omega) (by omega) ⟨fun q => wq ih ?_, fun q => wq ih ?_⟩, fun h => absurd hp (by omega)⟩
    · rw [lv_eq hs] at q
      rw [wr1 (by omega), cnt_t (by simp [q]), wr_id ⟨by omega, by omega⟩]
    · rw [lv_eq hs] at q
      rw [wr1 (by omega), cnt_f (by simp [q]), wr_id ⟨by omega, by omega⟩, Int.add_zero]
theorem m_craftsIn {d : Nat} {s sh : Int} {σ T : Sg} {K : Kt} (hv : MV σ 86 T) (hw : WF T) (hs : 0 ≤ s ∧ s < 9) (hk : K (if sh = 0 then ors (fun p => decide (T 7 p = s)) (T 3) (nP T) else shC T s) σ) : wpCall (d + 2) iX7_craftsIn [aR 85, aI s, aI sh] σ K := by
  obtain ⟨⟨e0, e1, e2, e3, e4⟩, eh, ew, ep⟩ := id hv
  obtain ⟨⟨⟨a1, a2⟩, ⟨a3, a4⟩, ⟨a5, a6⟩, ⟨a7, a8⟩, a9⟩, wh, ww, wp⟩ := id hw
  have hnP : ((nP T : Nat) : Int) = T 0 1 := Int.toNat_of_nonneg a3
  have hnS : ((nS T : Nat) : Int) = T 0 0 := Int.toNat_of_nonneg a1
  have l86 : LEN 86 = 107 := rfl
  refine bX7_craftsIn (wq (dwn (W := fun p => wpL (wpCall (d + 1)) mX7_craftsIn K 5 [aR 85, aI s, aI sh, aI (if sh = 0 then ors (fun p => decide (T 7 p = s)) (T 3) p else ors (fun p => decide (T 7 p = s)) (shn T) p), aI (p : Nat)] [] σ) (nP T) ?_ (fun p hp ih => ?_) 0 ?_) ?_)
  · exact bX7_craftsIn_5 ⟨by omega, by omega, fun h => absurd h (by omega), fun _ => hk⟩
  · refine bX7_craftsIn_5 ⟨by omega, by omega, fun h => m_at hv (by omega) (by omega) ⟨fun q => ⟨fun z => m_cr hv (by omega) (by omega) (wq ih ?_), fun z => m_cr hv (by omega) (by omega) (m_hd hv (by omega) (by omega) (wq ih ?_))⟩, fun q => wq ih ?_⟩, fun h => absurd hp (by omega)⟩
    · rw [lv_eq hs] at q
      rw [wr1 (by omega), if_pos z, if_pos z, ors_t (by simp [q])]
    · rw [lv_eq hs] at q
      rw [wr1 (by omega), if_neg z, if_neg z, ors_t (by simp [q])]; rfl
    · rw [lv_eq hs] at q
      rw [wr1 (by omega), ors_f (by simp [q]), ors_f (by simp [q])]
  · exact Nat.zero_le _
  · by_cases z : sh = 0 <;> simp [z, ors]
