/-! THE MODEL'S COUNTS -/
theorem ixg {p k : Nat} (h : p < 9) (hk : k < 9) : wr (wr (35 + wr (9 * (p : Int))) + (k : Int)) = ((35 + 9 * p + k : Nat) : Int) := by unfold wr; push_cast; omega
theorem m_get {d p k : Nat} {σ : Sg} {K : Kt} (hp : p < 8) (hk9 : k < 9) (hk : K (σ 86 (35 + 9 * p + k)) σ) : wpCall (d + 1) iX7_get [aR 85, aI (p : Nat), aI (k : Nat)] σ K := by
  have l86 : LEN 86 = 107 := rfl
  refine bX7_get ?_
  rw [ixg (by omega) hk9, Int.toNat_natCast]
  exact ⟨by omega, by omega, hk⟩
theorem lv_eq {x s : Int} (h : 0 ≤ s ∧ s < 9) : lv x = s ↔ x = s := by
  unfold lv
  split <;> constructor <;> intro g <;> omega
theorem m_at {d p : Nat} {σ T : Sg} {K : Kt} (hv : MV σ 86 T) (hp : (p : Int) < T 0 1) (h8 : T 0 1 ≤ 8) (hk : K (lv (T 7 p)) σ) : wpCall (d + 1) iX7_get [aR 85, aI (p : Nat), aI 3] σ K :=
  m_get (k := 3) (by omega) (by omega) (by
    rw [show 35 + 9 * p + 3 = 38 + 9 * p by omega, (hv.2.2.2 p hp).2.2.2.1]; exact hk)
theorem m_cr {d p : Nat} {σ T : Sg} {K : Kt} (hv : MV σ 86 T) (hp : (p : Int) < T 0 1) (h8 : T 0 1 ≤ 8) (hk : K (T 3 p) σ) : wpCall (d + 1) iX7_get [aR 85, aI (p : Nat), aI 0] σ K :=
  m_get (k := 0) (by omega) (by omega) (by
    rw [show 35 + 9 * p + 0 = 35 + 9 * p by omega, (hv.2.2.2 p hp).1]; exact hk)
theorem m_hd {d p : Nat} {σ T : Sg} {K : Kt} (hv : MV σ 86 T) (hp : (p : Int) < T 0 1) (h8 : T 0 1 ≤ 8) (hk : K (T 4 p) σ) : wpCall (d + 1) iX7_get [aR 85, aI (p : Nat), aI 1] σ K :=
  m_get (k := 1) (by omega) (by omega) (by
    rw [show 35 + 9 * p + 1 = 36 + 9 * p by omega, (hv.2.2.2 p hp).2.1]; exact hk)
theorem m_ti {d p : Nat} {σ T : Sg} {K : Kt} (hv : MV σ 86 T) (hp : (p : Int) < T 0 1) (h8 : T 0 1 ≤ 8) (hk : K (T 5 p) σ) : wpCall (d + 1) iX7_get [aR 85, aI (p : Nat), aI 2] σ K :=
  m_get (k := 2) (by omega) (by omega) (by
    rw [show 35 + 9 * p + 2 = 37 + 9 * p by omega, (hv.2.2.2 p hp).2.2.1]; exact hk)
theorem m_manyIn {d : Nat} {s : Int} {σ T : Sg} {K : Kt} (hv : MV σ 86 T) (hw : WF T) (hs : 0 ≤ s ∧ s < 9) (hk : K (crowd T s) σ) : wpCall (d + 2) iX7_manyIn [aR 85, aI s] σ K := by
  obtain ⟨⟨e0, e1, e2, e3, e4⟩, eh, ew, ep⟩ := id hv
  obtain ⟨⟨⟨a1, a2⟩, ⟨a3, a4⟩, ⟨a5, a6⟩, ⟨a7, a8⟩, a9⟩, wh, ww, wp⟩ := id hw
  have hnP : ((nP T : Nat) : Int) = T 0 1 := Int.toNat_of_nonneg a3
  have hnS : ((nS T : Nat) : Int) = T 0 0 := Int.toNat_of_nonneg a1
  have l86 : LEN 86 = 107 := rfl
  refine bX7_manyIn (dwn (W := fun p => wpL (wpCall (d + 1)) mX7_manyIn K 4 [aR 85, aI s, aI (cnt (fun p => decide (T 7 p = s)) p), aI (p : Nat)] [] σ) (nP T) ?_ (fun p hp ih => ?_) 0 (Nat.zero_le _))
  · exact bX7_manyIn_4 ⟨by omega, by omega, fun h => absurd h (by omega), fun _ => hk⟩
  · have r := cnt_r (fun p => decide (T 7 p = s)) p
    refine bX7_manyIn_4 ⟨by omega, by omega, fun h => m_at hv (by omega) (by omega) ⟨fun q => wq ih ?_, fun q => wq ih ?_⟩, fun h => absurd hp (by omega)⟩
    · rw [lv_eq hs] at q
      rw [wr1 (by omega), cnt_t (by simp [q]), wr_id ⟨by omega, by omega⟩]
    · rw [lv_eq hs] at q
      rw [wr1 (by omega), cnt_f (by simp [q]), wr_id ⟨by omega, by omega⟩, Int.add_zero]
theorem m_craftsIn {d : Nat} {s sh : Int} {σ T : Sg} {K : Kt} (hv : MV σ 86 T) (hw : WF T) (hs : 0 ≤ s ∧ s < 9) (hk : K (if sh = 0 then ors (fun p => decide (T 7 p = s)) (T 3) (nP T) else shC T s) σ) : wpCall (d + 2) iX7_craftsIn [aR 85, aI s, aI sh] σ K := by
  obtain ⟨⟨e0, e1, e2, e3, e4⟩, eh, ew, ep⟩ := id hv
  obtain ⟨⟨⟨a1, a2⟩, ⟨a3, a4⟩, ⟨a5, a6⟩, ⟨a7, a8⟩, a9⟩, wh, ww, wp⟩ := id hw
  have hnP : ((nP T : Nat) : Int) = T 0 1 := Int.toNat_of_nonneg a3
  have hnS : ((nS T : Nat) : Int) = T 0 0 := Int.toNat_of_nonneg a1
  have l86 : LEN 86 = 107 := rfl
  refine bX7_craftsIn (wq (dwn (W := fun p => wpL (wpCall (d + 1)) mX7_craftsIn K 5 [aR 85, aI s, aI sh, aI (if sh = 0 then ors (fun p => decide (T 7 p = s)) (T 3) p else ors (fun p => decide (T 7 p = s)) (shn T) p), aI (p : Nat)] [] σ) (nP T) ?_ (fun p hp ih => ?_) 0 ?_) ?_)
  · exact bX7_craftsIn_5 ⟨by omega, by omega, fun h => absurd h (by omega), fun _ => hk⟩
  · refine bX7_craftsIn_5 ⟨by omega, by omega, fun h => m_at hv (by omega) (by omega) ⟨fun q => ⟨fun z => m_cr hv (by omega) (by omega) (wq ih ?_), fun z => m_cr hv (by omega) (by omega) (m_hd hv (by omega) (by omega) (wq ih ?_))⟩, fun q => wq ih ?_⟩, fun h => absurd hp (by omega)⟩
    · rw [lv_eq hs] at q
      rw [wr1 (by omega), if_pos z, if_pos z, ors_t (by simp [q])]
    · rw [lv_eq hs] at q
      rw [wr1 (by omega), if_neg z, if_neg z, ors_t (by simp [q])]; rfl
    · rw [lv_eq hs] at q
      rw [wr1 (by omega), ors_f (by simp [q]), ors_f (by simp [q])]
  · exact Nat.zero_le _
  · by_cases z : sh = 0 <;> simp [z, ors]
theorem m_bits {d : Nat} {x : Int} {σ : Sg} {K : Kt} (hx : U8 x) (hk : K (pop x) σ) : wpCall (d + 1) iX7_bits [aI x] σ K := by
  have sh : ∀ n, n < 256 → bShr (Int.ofNat n) 1 = Int.ofNat (n / 2) ∧ pop (Int.ofNat n) = pop (Int.ofNat (n / 2)) + bAnd (Int.ofNat n) 1 ∧ 0 ≤ bAnd (Int.ofNat n) 1 ∧ bAnd (Int.ofNat n) 1 ≤ 1 := by decide +kernel
  obtain ⟨n, hn, rfl⟩ := U8_nat hx
  have key : ∀ (m n : Nat) (y : Int), n < 256 → n ≤ m → 0 ≤ y ∧ y ≤ 100 → (y + pop (n : Int) ≤ 100) → K (y + pop (n : Int)) σ → wpL (wpCall d) mX7_bits K 4 [aU, aI y, aI (n : Nat)] [] σ := by
    intro m
    induction m with
    | zero =>
      intro n y hn hm hy h1 hk
      have : n = 0 := by omega
      subst this
      exact bX7_bits_4 ⟨fun z => by omega, fun _ => kq hk (by rw [show pop ((0 : Nat) : Int) = 0 by decide +kernel]; omega)⟩
    | succ m ih =>
      intro n y hn hm hy h1 hk
      obtain ⟨s1, s2, s3, s4⟩ := sh n hn
      have s1 : bShr (n : Int) 1 = ((n / 2 : Nat) : Int) := s1
      have s2 : pop (n : Int) = pop ((n / 2 : Nat) : Int) + bAnd (n : Int) 1 := s2
      have s3 : 0 ≤ bAnd (n : Int) 1 := s3
      have s4 : bAnd (n : Int) 1 ≤ 1 := s4
      refine bX7_bits_4 ⟨fun z => ?_, fun z => ?_⟩
      · generalize bAnd (n : Int) 1 = b at *
        have hp := (pop_r ((n / 2 : Nat) : Int)).1
        rw [s1, wr_id ⟨by omega, by omega⟩]
        exact ih (n / 2) _ (by omega) (by omega) (by omega) (by omega) (by rw [s2] at hk; rw [show y + b + pop ((n / 2 : Nat) : Int) = y + (pop ((n / 2 : Nat) : Int) + b) by omega]; exact hk)
      · have : n = 0 := by omega
        subst this
        exact kq hk (by rw [show pop ((0 : Nat) : Int) = 0 by decide +kernel]; omega)
  have := (pop_r (n : Int)).2
  exact bX7_bits (key 256 n 0 hn (by omega) (by omega) (by omega) (by rw [Int.zero_add]; exact hk))
theorem wr4 {s : Nat} (h : s < 9) : wr (4 + (s : Int)) = ((4 + s : Nat) : Int) := by unfold wr; push_cast; omega
theorem m_worthAt {d p s : Nat} {σ T : Sg} {K : Kt} (hv : MV σ 86 T) (hw : WF T) (hp : (p : Int) < T 0 1) (hs : (s : Int) < T 0 0) (hk : K (wAt T p s) σ) : wpCall (d + 2) iX7_worthAt [aR 85, aI (p : Nat), aI (s : Nat)] σ K := by
  obtain ⟨⟨e0, e1, e2, e3, e4⟩, eh, ew, ep⟩ := id hv
  obtain ⟨⟨⟨a1, a2⟩, ⟨a3, a4⟩, ⟨a5, a6⟩, ⟨a7, a8⟩, a9⟩, wh, ww, wp⟩ := id hw
  have hnP : ((nP T : Nat) : Int) = T 0 1 := Int.toNat_of_nonneg a3
  have hnS : ((nS T : Nat) : Int) = T 0 0 := Int.toNat_of_nonneg a1
  have l86 : LEN 86 = 107 := rfl
  have hu : U8 (bAnd (T 3 p) (bXor (othC T s p) (-1))) := U8_andn (wp p hp).1 (U8_oth hw)
  have h1 := (wp p hp).2.2.2.2 s hs
  have h2 := pop_r (bAnd (T 3 p) (bXor (othC T s p) (-1)))
  refine bX7_worthAt ⟨fun z => by omega, fun _ => dwn (W := fun q => wpL (wpCall (d + 1)) mX7_worthAt K 11 [aR 85, aI (p : Nat), aI (s : Nat), aI (ors (fun o => decide (T 7 o = (s : Int)) && !decide ((o : Int) = (p : Int))) (T 3) q), aI (q : Nat)] [] σ) (nP T) ?_ (fun o ho ih => ?_) 0 (Nat.zero_le _)⟩
  · refine bX7_worthAt_11 ⟨by omega, by omega, fun h => absurd h (by omega), fun _ => ?_⟩
    rw [wr4 (by omega)]
    refine m_get (by omega) (by omega) (m_cr hv hp (by omega) (m_bits hu (kq hk ?_)))
    rw [show 35 + 9 * p + (4 + s) = 39 + 9 * p + s by omega, (ep p hp).2.2.2.2 s hs]
    unfold wAt
    rw [show ors (fun o => decide (T 7 o = (s : Int)) && !decide ((o : Int) = (p : Int))) (T 3) (nP T) = othC T s p from rfl]
    rw [wr_id (x := 3 * _) ⟨by omega, by omega⟩, wr_id ⟨by omega, by omega⟩]
  · refine bX7_worthAt_11 ⟨by omega, by omega, fun h => ⟨fun q => wq ih ?_, fun q => m_at hv (by omega) (by omega) ⟨fun q2 => m_cr hv (by omega) (by omega) (wq ih ?_), fun q2 => wq ih ?_⟩⟩, fun h => absurd ho (by omega)⟩
    · rw [wr1 (by omega), ors_f (by simp [q])]
    · rw [lv_eq (by omega)] at q2
      rw [wr1 (by omega), ors_t (by simp [q, q2])]
    · rw [lv_eq (by omega)] at q2
      rw [wr1 (by omega), ors_f (by simp [q2])]
