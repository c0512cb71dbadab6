/-! THE MODEL'S LAW -/
theorem bit01 {x : Int} {c : Nat} (hx : U8 x) (hc : c < 8) : (bAnd (bShr x c) 1 = 0 ↔ bit x c = false) ∧ (bAnd (bShr x c) 1 = 1 ↔ bit x c = true) := by
  obtain ⟨n, hn, rfl⟩ := U8_nat hx
  have key : ∀ n, n < 256 → ∀ c, c < 8 → (bAnd (bShr (Int.ofNat n) (Int.ofNat c)) 1 = 0 ↔ bit (Int.ofNat n) c = false) ∧ (bAnd (bShr (Int.ofNat n) (Int.ofNat c)) 1 = 1 ↔ bit (Int.ofNat n) c = true) := by decide +kernel
  exact key n hn c hc
theorem m_wayOf {d x y : Nat} {σ T : Sg} {K : Kt} (hv : MV σ 86 T) (hw : WF T) (hx : (x : Int) < T 0 0) (hy : (y : Int) < T 0 0) (hk : K (T 2 (5 * x + y)) σ) : wpCall (d + 1) iX7_wayOf [aR 85, aI (x : Nat), aI (y : Nat)] σ K := by
  obtain ⟨⟨e0, e1, e2, e3, e4⟩, eh, ew, ep⟩ := id hv
  obtain ⟨⟨⟨a1, a2⟩, ⟨a3, a4⟩, ⟨a5, a6⟩, ⟨a7, a8⟩, a9⟩, wh, ww, wp⟩ := id hw
  have hnP : ((nP T : Nat) : Int) = T 0 1 := Int.toNat_of_nonneg a3
  have hnS : ((nS T : Nat) : Int) = T 0 0 := Int.toNat_of_nonneg a1
  have l86 : LEN 86 = 107 := rfl
  refine bX7_wayOf ?_
  rw [ixw (by omega) (by omega), Int.toNat_natCast, ew x y hx hy]
  exact ⟨by omega, by omega, hk⟩
theorem m_counts {d x y : Nat} {σ T : Sg} {K : Kt} (hv : MV σ 86 T) (hw : WF T) (hx : (x : Int) < T 0 0) (hy : (y : Int) < T 0 0) (h1 : tog T y x = true → K 1 σ) (h0 : tog T y x = false → K 0 σ) : wpCall (d + 2) iX7_counts [aR 85, aI (x : Nat), aI (y : Nat)] σ K := by
  obtain ⟨⟨e0, e1, e2, e3, e4⟩, eh, ew, ep⟩ := id hv
  obtain ⟨⟨⟨a1, a2⟩, ⟨a3, a4⟩, ⟨a5, a6⟩, ⟨a7, a8⟩, a9⟩, wh, ww, wp⟩ := id hw
  have hnP : ((nP T : Nat) : Int) = T 0 1 := Int.toNat_of_nonneg a3
  have hnS : ((nS T : Nat) : Int) = T 0 0 := Int.toNat_of_nonneg a1
  have l86 : LEN 86 = 107 := rfl
  have sy := (ww x y hx hy).2.1
  have nn := (ww x y hx hy).1
  refine bX7_counts ⟨fun q => ⟨by decide, h1 (by simp [tog]; omega)⟩, fun q => ⟨by omega, by omega, ?_⟩⟩
  rw [e3]
  refine ⟨fun q2 => m_wayOf hv hw hx hy ?_, fun q2 => ⟨by decide, h0 (by simp [tog]; omega)⟩⟩
  rw [e3]
  exact ⟨by omega, by omega, fun q3 => ⟨by decide, h1 (by simp [tog]; omega)⟩, fun q3 => ⟨by decide, h0 (by simp [tog]; omega)⟩⟩
theorem m_areTied {d : Nat} {σ T : Sg} {K : Kt} (hv : MV σ 86 T) (hw : WF T) (h1 : ties T = true → K 1 σ) (h0 : ties T = false → K 0 σ) : wpCall (d + 2) iX7_areTied [aR 85] σ K := by
  obtain ⟨⟨e0, e1, e2, e3, e4⟩, eh, ew, ep⟩ := id hv
  obtain ⟨⟨⟨a1, a2⟩, ⟨a3, a4⟩, ⟨a5, a6⟩, ⟨a7, a8⟩, a9⟩, wh, ww, wp⟩ := id hw
  have hnP : ((nP T : Nat) : Int) = T 0 1 := Int.toNat_of_nonneg a3
  have hnS : ((nS T : Nat) : Int) = T 0 0 := Int.toNat_of_nonneg a1
  have l86 : LEN 86 = 107 := rfl
  have key : ∀ k p : Nat, p + k = nP T → (allI (tieOK T) k p = true → K 1 σ) → (allI (tieOK T) k p = false → K 0 σ) → wpL (wpCall (d + 1)) mX7_areTied K 2 [aR 85, aI (p : Nat), aU] [] σ := by
    intro k
    induction k with
    | zero => exact fun p hp g1 g0 => bX7_areTied_2 ⟨by omega, by omega, fun h => absurd h (by omega), fun _ => ⟨by decide, g1 rfl⟩⟩
    | succ k ih =>
      intro p hp g1 g0
      have w := (wp p (by omega)).2.2.1
      have w7 := (wp p (by omega)).2.2.2.1
      have next : tieOK T p = true → wpL (wpCall (d + 1)) mX7_areTied K 2 [aR 85, aI (wr ((p : Int) + 1)), aU] [] σ := fun q => by
        rw [wr1 (by omega)]
        exact ih (p + 1) (by omega) (fun z => g1 (by simp [allI, q, z])) (fun z => g0 (by simp [allI, q, z]))
      refine bX7_areTied_2 ⟨by omega, by omega, fun _ => m_ti hv (by omega) (by omega) ⟨fun q => next (by simp [tieOK]; omega), fun q => ?_⟩, fun h => absurd h (by omega)⟩
      obtain ⟨o, ho⟩ : ∃ o : Nat, T 5 p = o := ⟨(T 5 p).toNat, by omega⟩
      have w7o := (wp o (by omega)).2.2.2.1
      have hlp : lv (T 7 p) < 0 ↔ T 7 p = 9 := by unfold lv; split <;> omega
      have hlo : lv (T 7 o) < 0 ↔ T 7 o = 9 := by unfold lv; split <;> omega
      rw [ho]
      refine m_at hv (by omega) (by omega) ⟨fun q2 => next (by simp [tieOK, hlp.1 q2]), fun q2 => m_at hv (by omega) (by omega) ⟨fun q3 => next (by simp [tieOK, ho, hlo.1 q3]), fun q3 => m_at hv (by omega) (by omega) (m_at hv (by omega) (by omega) ⟨fun q4 => next ?_, fun q4 => ⟨by decide, g0 ?_⟩⟩)⟩⟩
      · have a1 : ¬ T 7 p = 9 := fun z => q2 (hlp.2 z)
        have a2 : ¬ T 7 o = 9 := fun z => q3 (hlo.2 z)
        unfold lv at q4
        rw [if_neg a1, if_neg a2] at q4
        simp [tieOK, ho, q4]
      · have a1 : ¬ T 7 p = 9 := fun z => q2 (hlp.2 z)
        have a2 : ¬ T 7 o = 9 := fun z => q3 (hlo.2 z)
        unfold lv at q4
        rw [if_neg a1, if_neg a2] at q4
        have : tieOK T p = false := by simp [tieOK, ho, q4, a1, a2]
        simp [allI, this]
  exact bX7_areTied (key (nP T) 0 (by omega) h1 h0)
theorem cnt_0 {f : Nat → Bool} : ∀ {n : Nat}, (∀ p, p < n → f p = false) → cnt f n = 0
  | 0, _ => rfl
  | n + 1, h => by rw [cnt_f (h n (by omega)), cnt_0 (fun p hp => h p (by omega))]
theorem allI_s (f : Nat → Bool) (k i : Nat) : allI f (k + 1) i = (f i && allI f k (i + 1)) := rfl
theorem m_holdsIn {d s : Nat} {σ T : Sg} {K : Kt} (hv : MV σ 86 T) (hw : WF T) (hs : (s : Int) < T 0 0) (h1 : over T s = false → K 1 σ) (h0 : over T s = true → K 0 σ) : wpCall (d + 3) iX7_holdsIn [aR 85, aI (s : Nat)] σ K := by
  obtain ⟨⟨e0, e1, e2, e3, e4⟩, eh, ew, ep⟩ := id hv
  obtain ⟨⟨⟨a1, a2⟩, ⟨a3, a4⟩, ⟨a5, a6⟩, ⟨a7, a8⟩, a9⟩, wh, ww, wp⟩ := id hw
  have hnP : ((nP T : Nat) : Int) = T 0 1 := Int.toNat_of_nonneg a3
  have hnS : ((nS T : Nat) : Int) = T 0 0 := Int.toNat_of_nonneg a1
  have l86 : LEN 86 = 107 := rfl
  have key : ∀ k c : Nat, c + k = 8 → (allI (fun c => decide (cntL T s c ≤ T 0 2)) k c = true → K 1 σ) → (allI (fun c => decide (cntL T s c ≤ T 0 2)) k c = false → K 0 σ) → wpL (wpCall (d + 2)) mX7_holdsIn K 2 [aR 85, aI (s : Nat), aI (c : Nat), aU, aU, aU] [] σ := by
    intro k
    induction k with
    | zero => exact fun c hc g1 g0 => bX7_holdsIn_2 ⟨fun h => absurd h (by omega), fun _ => ⟨by decide, g1 rfl⟩⟩
    | succ k ih =>
      intro c hc g1 g0
      rw [allI_s] at g1 g0
      have next : cntL T s c ≤ T 0 2 → wpL (wpCall (d + 2)) mX7_holdsIn K 2 [aR 85, aI (s : Nat), aI (wr ((c : Int) + 1)), aU, aU, aU] [] σ := fun q => by
        rw [wr1 (by omega)]
        exact ih (c + 1) (by omega) (fun z => g1 (by simp [q, z])) (fun z => g0 (by simp [z]))
      have hb := bit01 (c := c) a9 (by omega)
      have ow : ∀ q, q < nP T → bit (own T q) c = (bit (shn T q) c && bit (T 0 4) c) := fun q hq => bit_and (U8_shn hw (by omega)) a9 (by omega)
      refine bX7_holdsIn_2 ⟨fun _ => ?_, fun h => absurd h (by omega)⟩
      rw [e4]
      refine ⟨by omega, by omega, fun q => next ?_, fun q => ?_⟩
      · have q := hb.1.1 q
        have : cntL T s c = 0 := cnt_0 (fun o ho => by rw [ow o ho, q]; simp)
        omega
      · have q : bit (T 0 4) c = true := by
          cases hq : bit (T 0 4) c with
          | true => rfl
          | false => exact absurd (hb.1.2 hq) q
        refine dwn (W := fun p => wpL (wpCall (d + 2)) mX7_holdsIn K 29 [aR 85, aI (s : Nat), aI (c : Nat), aI (cnt (fun p => !decide (T 7 p = 9) && (tog T (T 7 p).toNat s && bit (own T p) c)) p), aI (p : Nat), aU] [] σ) (nP T) ?_ (fun p hp ih2 => ?_) 0 (Nat.zero_le _)
        · refine bX7_holdsIn_29 ⟨by omega, by omega, fun h => absurd h (by omega), fun _ => ?_⟩
          rw [e2]
          refine ⟨by omega, by omega, fun z => ⟨by decide, g0 ?_⟩, fun z => next (by unfold cntL; omega)⟩
          have : decide (cntL T s c ≤ T 0 2) = false := decide_eq_false (by unfold cntL; omega)
          rw [this]; rfl
        · have r := cnt_r (fun p => !decide (T 7 p = 9) && (tog T (T 7 p).toNat s && bit (own T p) c)) p
          have w7 := (wp p (by omega)).2.2.2.1
          have hb2 := bit01 (c := c) (U8_shn hw (p := p) (by omega)) (by omega)
          have owp := ow p hp
          rw [q, Bool.and_true] at owp
          have no : (!decide (T 7 p = 9) && (tog T (T 7 p).toNat s && bit (own T p) c)) = false → wpL (wpCall (d + 2)) mX7_holdsIn K 29 [aR 85, aI (s : Nat), aI (c : Nat), aI (wr (cnt (fun p => !decide (T 7 p = 9) && (tog T (T 7 p).toNat s && bit (own T p) c)) p + 0)), aI (wr ((p : Int) + 1)), aU] [] σ := fun g => wq ih2 (by rw [wr1 (by omega), cnt_f g, wr_id ⟨by omega, by omega⟩, Int.add_zero])
          have hlp : lv (T 7 p) < 0 ↔ T 7 p = 9 := by unfold lv; split <;> omega
          refine bX7_holdsIn_29 ⟨by omega, by omega, fun _ => m_cr hv (by omega) (by omega) (m_hd hv (by omega) (by omega) ⟨fun z => ?_, fun z => ?_⟩), fun h => absurd hp (by omega)⟩
          · have z : bit (shn T p) c = true := hb2.2.1 z
            refine bX7_holdsIn_70 (m_at hv (by omega) (by omega) ⟨fun g => no (by simp [hlp.1 g]), fun g => ⟨fun g2 => absurd g2 (by decide), fun _ => m_at hv (by omega) (by omega) ?_⟩⟩)
            have g : ¬ T 7 p = 9 := fun y => g (hlp.2 y)
            obtain ⟨o, ho⟩ : ∃ o : Nat, T 7 p = o := ⟨(T 7 p).toNat, by omega⟩
            rw [show lv (T 7 p) = (o : Int) by unfold lv; rw [if_neg g, ho]]
            refine m_counts hv hw hs (by omega) (fun g2 => ⟨fun g3 => absurd g3 (by decide), fun _ => wq ih2 ?_⟩) (fun g2 => ⟨fun _ => no (by simp [ho, g2]), fun g3 => absurd rfl g3⟩)
            rw [wr1 (by omega), cnt_t (by rw [ho]; rw [ho] at g; simp [g, g2, owp, z]), wr_id ⟨by omega, by omega⟩]
          · have z : bit (shn T p) c = false := by
              cases hq : bit (shn T p) c with
              | false => rfl
              | true => exact absurd (hb2.2.2 hq) z
            have n2 := no (by rw [owp, z]; simp)
            exact bX7_holdsIn_70 (m_at hv (by omega) (by omega) ⟨fun g => n2, fun g => ⟨fun g2 => n2, fun g2 => absurd rfl g2⟩⟩)
  refine bX7_holdsIn (key 8 0 (by omega) (fun z => h1 (by unfold over; rw [z]; rfl)) (fun z => h0 (by unfold over; rw [z]; rfl)))
theorem fstI_s (f : Nat → Bool) (z : Int) (k i : Nat) : fstI f z (k + 1) i = if f i then (i : Int) else fstI f z k (i + 1) := rfl
theorem m_firstWrong {d : Nat} {σ T : Sg} {K : Kt} (hv : MV σ 86 T) (hw : WF T) (hk : K (fb T) σ) : wpCall (d + 4) iX7_firstWrong [aR 85] σ K := by
  obtain ⟨⟨e0, e1, e2, e3, e4⟩, eh, ew, ep⟩ := id hv
  obtain ⟨⟨⟨a1, a2⟩, ⟨a3, a4⟩, ⟨a5, a6⟩, ⟨a7, a8⟩, a9⟩, wh, ww, wp⟩ := id hw
  have hnP : ((nP T : Nat) : Int) = T 0 1 := Int.toNat_of_nonneg a3
  have hnS : ((nS T : Nat) : Int) = T 0 0 := Int.toNat_of_nonneg a1
  have l86 : LEN 86 = 107 := rfl
  have key : ∀ k s : Nat, s + k = nS T → K (fstI (bad T) (if ties T then -4 else 9) k s) σ → wpL (wpCall (d + 3)) mX7_firstWrong K 2 [aR 85, aI (s : Nat)] [] σ := by
    intro k
    induction k with
    | zero =>
      intro s hs g
      refine bX7_firstWrong_2 ⟨by omega, by omega, fun h => absurd h (by omega), fun _ => m_areTied hv hw (fun q => ⟨fun z => absurd z (by decide), fun _ => ?_⟩) (fun q => ⟨fun _ => ?_, fun z => absurd rfl z⟩)⟩
      · rw [q] at g; exact g
      · rw [q] at g; exact g
    | succ k ih =>
      intro s hs g
      rw [fstI_s] at g
      have hov : over T s = true → K s σ := fun q => by rw [show bad T s = true by unfold bad; rw [q, Bool.or_true]] at g; exact g
      refine bX7_firstWrong_2 ⟨by omega, by omega, fun _ => m_holdsIn hv hw (by omega) (fun q => ⟨fun z => absurd z (by decide), fun _ => m_manyIn hv hw (by omega) ?_⟩) (fun q => ⟨fun _ => hov q, fun z => absurd rfl z⟩), fun h => absurd h (by omega)⟩
      rw [ixh (by omega), Int.toNat_natCast, eh s (by omega)]
      refine ⟨by omega, by omega, fun z => ?_, fun z => ?_⟩
      · rw [show bad T s = true by unfold bad; simp [z]] at g; exact g
      · rw [show bad T s = false by unfold bad; rw [q]; simp; omega] at g
        rw [wr1 (by omega)]
        exact ih (s + 1) (by omega) g
  exact bX7_firstWrong (key (nS T) 0 (by omega) hk)
theorem m_isLawful {d : Nat} {σ T : Sg} {K : Kt} (hv : MV σ 86 T) (hw : WF T) (hk : K (b2i (lawful T)) σ) : wpCall (d + 5) iX7_isLawful [aR 85] σ K := by
  refine bX7_isLawful (m_firstWrong hv hw ⟨fun q => ⟨by decide, ?_⟩, fun q => ⟨by decide, ?_⟩⟩)
  · rw [show lawful T = true by unfold lawful; simp [q]] at hk; exact hk
  · rw [show lawful T = false by unfold lawful; simp [q]] at hk; exact hk
theorem m_worthOf {d p : Nat} {σ T : Sg} {K : Kt} (hv : MV σ 86 T) (hw : WF T) (hp : (p : Int) < T 0 1) (hk : K (wNow T p) σ) : wpCall (d + 3) iX7_worthOf [aR 85, aI (p : Nat)] σ K := by
  obtain ⟨⟨e0, e1, e2, e3, e4⟩, eh, ew, ep⟩ := id hv
  obtain ⟨⟨⟨a1, a2⟩, ⟨a3, a4⟩, ⟨a5, a6⟩, ⟨a7, a8⟩, a9⟩, wh, ww, wp⟩ := id hw
  have hnP : ((nP T : Nat) : Int) = T 0 1 := Int.toNat_of_nonneg a3
  have hnS : ((nS T : Nat) : Int) = T 0 0 := Int.toNat_of_nonneg a1
  have w7 := (wp p hp).2.2.2.1
  refine bX7_worthOf (m_at hv hp (by omega) ?_)
  unfold wNow at hk
  by_cases q : T 7 p = 9
  · rw [if_pos q] at hk
    rw [show lv (T 7 p) = -4 by unfold lv; rw [if_pos q]]
    exact bX7_worthAt ⟨fun _ => hk, fun z => absurd (by decide) z⟩
  · rw [if_neg q] at hk
    obtain ⟨o, ho⟩ : ∃ o : Nat, T 7 p = o := ⟨(T 7 p).toNat, by omega⟩
    rw [show lv (T 7 p) = (o : Int) by unfold lv; rw [if_neg q, ho]]
    rw [ho, Int.toNat_natCast] at hk
    exact m_worthAt hv hw hp (by omega) hk
theorem m_worths {d : Nat} {σ T : Sg} {K : Kt} (hv : MV σ 86 T) (hw : WF T) (hk : K (wSum T) σ) : wpCall (d + 4) iX7_worths [aR 85] σ K := by
  obtain ⟨⟨e0, e1, e2, e3, e4⟩, eh, ew, ep⟩ := id hv
  obtain ⟨⟨⟨a1, a2⟩, ⟨a3, a4⟩, ⟨a5, a6⟩, ⟨a7, a8⟩, a9⟩, wh, ww, wp⟩ := id hw
  have hnP : ((nP T : Nat) : Int) = T 0 1 := Int.toNat_of_nonneg a3
  have hnS : ((nS T : Nat) : Int) = T 0 0 := Int.toNat_of_nonneg a1
  have l86 : LEN 86 = 107 := rfl
  refine bX7_worths (dwn (W := fun p => wpL (wpCall (d + 3)) mX7_worths K 4 [aR 85, aI (sumN (wNow T) p), aI (p : Nat)] [] σ) (nP T) ?_ (fun p hp ih => ?_) 0 (Nat.zero_le _))
  · exact bX7_worths_4 ⟨by omega, by omega, fun h => absurd h (by omega), fun _ => hk⟩
  · have r := sumN_r (g := wNow T) (b := 123) (by omega) p (fun q hq => wNow_r hw (by omega))
    have r2 := wNow_r hw (p := p) (by omega)
    refine bX7_worths_4 ⟨by omega, by omega, fun h => m_worthOf hv hw (by omega) (wq ih ?_), fun h => absurd hp (by omega)⟩
    rw [wr1 (by omega), wr_id ⟨by omega, by omega⟩]
    rfl
