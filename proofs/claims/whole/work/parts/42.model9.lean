/-! THE MODEL: years -/
abbrev LYe : List Nat := [85, 86, 89, 107]
theorem m_goesYears {d n : Nat} {z dth : Int} {σ T : Sg} {K : Kt} (h : MR σ T) (hw : WF T) (hn : 1 ≤ n ∧ n ≤ 30) (hk : ∀ σ', Ex LYe σ σ' → MR σ' T → σ' 85 38 = (yrF dth n z T 0 (fun _ => 0)).2.1 → σ' 85 39 = crowd (yrF dth n z T 0 (fun _ => 0)).1 9 → (∀ p : Nat, (p : Int) < T 0 1 → σ' 107 p = (yrF dth n z T 0 (fun _ => 0)).2.2 p) → K 0 σ') : wpCall (d + 7) iX7_goesYears [aR 85, aI (n : Nat), aI z, aI dth] σ K := by
  have l86 : LEN 86 = 107 := rfl
  have l89 : LEN 89 = 107 := rfl
  have l107 : LEN 107 = 8 := rfl
  have h8 := hw.1.2.1
  have hnP : ((nP T : Nat) : Int) = T 0 1 := Int.toNat_of_nonneg h8.1
  have key : ∀ k y : Nat, y + k = n → ∀ (z : Int) (T1 σ1 : Sg) (g : Int) (w : Nat → Int), MR σ1 T1 → WF T1 → T1 0 = T 0 → Ex LYe σ σ1 → (∀ j, j < 107 → σ1 89 j = σ 86 j) → σ1 85 38 = g → (0 ≤ g ∧ g ≤ 8 * y) → (y = 0 ∨ σ1 85 39 = crowd T1 9) → (∀ p : Nat, (p : Int) < T 0 1 → σ1 107 p = w p ∧ 0 ≤ w p ∧ w p ≤ y) → (∀ σ', Ex LYe σ σ' → MR σ' T → σ' 85 38 = (yrF dth k z T1 g w).2.1 → σ' 85 39 = crowd (yrF dth k z T1 g w).1 9 → (∀ p : Nat, (p : Int) < T 0 1 → σ' 107 p = (yrF dth k z T1 g w).2.2 p) → K 0 σ') → wpL (wpCall (d + 6)) mX7_goesYears K 46 [aR 85, aI (n : Nat), aU, aI dth, aI z, aI (y : Nat), aU] [] σ1 := by
    intro k
    induction k with
    | zero =>
      intro y hy z T1 σ1 g w m1 hw1 hT he h89 hg hgb hl hwt q
      refine bX7_goesYears_46 ⟨fun z => absurd z (by omega), fun _ => m_back (d := d + 5) (σ0 := σ) l89 (by omega) h89 h hw (fun σ2 he2 hi2 m2 => ?_)⟩
      refine q σ2 (he.tr (l := LYe) he2 (fun _ h => h) (by simp)) m2 (by rw [he2 85 (by simp)]; exact hg) (by rw [he2 85 (by simp)]; exact hl.resolve_left (by omega)) (fun p hp => by rw [he2 107 (by simp)]; exact (hwt p hp).1)
    | succ k ih =>
      intro y hy z T1 σ1 g w m1 hw1 hT he h89 hg hgb hl hwt q
      have hP1 : T1 0 1 = T 0 1 := by rw [hT]
      have hnP1 : nP T1 = nP T := by unfold nP; rw [hT]
      obtain ⟨D, hD⟩ : ∃ D, D = dieF dth (nP T1) 0 z T1 g := ⟨_, rfl⟩
      have ey : yrF dth (k + 1) z T1 g w = yrF dth k D.1 (rfF (nP T1) 0 D.2.1) D.2.2 (fun p => w p + b2i (decide (rfF (nP T1) 0 D.2.1 7 p = 9))) := by rw [hD]; rfl
      rw [ey, hnP1] at q
      have k143 : ∀ j p : Nat, p + j = nP T → ∀ (T3 σ3 : Sg), MR σ3 T3 → WF T3 → T3 0 = T 0 → Ex LYe σ σ3 → (∀ j, j < 107 → σ3 89 j = σ 86 j) → σ3 85 38 = D.2.2 → (0 ≤ D.2.2 ∧ D.2.2 ≤ 8 * (y + 1)) → σ3 85 39 = 0 → (∀ p : Nat, (p : Int) < T 0 1 → σ3 107 p = w p) → rfF j p T3 = rfF (nP T) 0 D.2.1 → wpL (wpCall (d + 6)) mX7_goesYears K 143 [aR 85, aI (n : Nat), aU, aI dth, aI D.1, aI (y : Nat), aI (p : Nat)] [] σ3 := by
        intro j
        induction j with
        | zero =>
          intro p hp T3 σ3 m3 hw3 hT3 he3 h893 hg3 hgb3 h39 hw59 hrf
          have f1 : σ3 86 1 = T3 0 1 := m3.1.1.2.1
          have hP3 : T3 0 1 = T 0 1 := by rw [hT3]
          have hnP3 : nP T3 = nP T := by unfold nP; rw [hT3]
          refine bX7_goesYears_143 ⟨by omega, by omega, fun z => absurd z (by omega), fun _ => ?_⟩
          have e3 : T3 = rfF (nP T) 0 D.2.1 := hrf
          rw [← e3] at q
          refine dwn (W := fun p => ∀ σ4, MR σ4 T3 → Ex LYe σ σ4 → (∀ j, j < 107 → σ4 89 j = σ 86 j) → σ4 85 38 = D.2.2 → σ4 85 39 = cnt (fun p => decide (T3 7 p = 9)) p → (∀ q : Nat, (q : Int) < T 0 1 → σ4 107 q = w q + (if q < p then b2i (decide (T3 7 q = 9)) else 0)) → wpL (wpCall (d + 6)) mX7_goesYears K 185 [aR 85, aI (n : Nat), aU, aI dth, aI D.1, aI (y : Nat), aI (p : Nat)] [] σ4) (nP T) (fun σ4 m4 he4 h894 hg4 h394 hw4 => ?_) (fun p hp ih4 σ4 m4 he4 h894 hg4 h394 hw4 => ?_) 0 (Nat.zero_le _) σ3 m3 he3 h893 hg3 h39 (fun q hq => by rw [hw59 q hq, if_neg (by omega), Int.add_zero])
          · have f1 : σ4 86 1 = T3 0 1 := m4.1.1.2.1
            refine bX7_goesYears_185 ⟨by omega, by omega, fun z => absurd z (by omega), fun _ => ?_⟩
            rw [wr1 (by omega)]
            refine ih (y + 1) (by omega) _ T3 σ4 _ (fun p => w p + b2i (decide (T3 7 p = 9))) m4 hw3 hT3 he4 h894 hg4 (by push_cast; omega) (Or.inr (by rw [h394]; unfold crowd; rw [hnP3])) (fun p hp => ?_) q
            rw [hw4 p hp, if_pos (by omega)]
            have := b2i_r (decide (T3 7 p = 9))
            have := (hwt p hp).2
            exact ⟨rfl, by omega, by push_cast; omega⟩
          · have f1 : σ4 86 1 = T3 0 1 := m4.1.1.2.1
            have w7 := home_ok hw3 (p := p) (by omega)
            have hlp : lv (T3 7 p) < 0 ↔ T3 7 p = 9 := by unfold lv; split <;> omega
            have r := cnt_r (fun p => decide (T3 7 p = 9)) p
            have hwp := (hwt p (by omega)).2
            refine bX7_goesYears_185 ⟨by omega, by omega, fun _ => m_at (d := d + 5) m4.1 (by omega) (by omega) ⟨fun q9 => ?_, fun q9 => ?_⟩, fun z => absurd hp (by omega)⟩
            · have q9 := hlp.1 q9
              rw [Int.toNat_natCast, wr1 (by omega), up_ne (show (107 : Nat) ≠ 85 by omega), h394, hw4 p (by omega), if_neg (by omega), Int.add_zero, wr_id (x := cnt (fun p => decide (T3 7 p = 9)) p + 1) ⟨by omega, by omega⟩, wr_id (x := w p + 1) ⟨by omega, by omega⟩]
              refine ⟨by omega, by omega, by omega, by omega, ih4 _ (m4.ex (l := [85, 107]) ((Ex.rf.up (by simp)).up (by simp)) (by simp)) ((he4.up (by simp)).up (by simp)) (fun j hj => by rw [up_ne (by omega), up_ne (by omega)]; exact h894 j hj) (by rw [up_ne (by omega), up_nk (by omega)]; exact hg4) (by rw [up_ne (by omega), up_self, cnt_t (by simp [q9])]) (fun x hx => ?_)⟩
              by_cases e : x = p
              · subst e; rw [up_self, if_pos (by omega)]; simp [q9, b2i]
              · rw [up_nk e, up_ne (by omega), hw4 x hx]
                have : (x < p) ↔ (x < p + 1) := by omega
                simp only [this]
            · have q9 : ¬ T3 7 p = 9 := fun z => q9 (hlp.2 z)
              rw [wr1 (by omega)]
              refine ih4 _ m4 he4 h894 hg4 (by rw [h394, cnt_f (by simp [q9])]) (fun x hx => ?_)
              rw [hw4 x hx]
              by_cases e : x = p
              · subst e; simp [q9, b2i]
              · have : (x < p) ↔ (x < p + 1) := by omega
                simp only [this]
        | succ j ihj =>
          intro p hp T3 σ3 m3 hw3 hT3 he3 h893 hg3 hgb3 h39 hw59 hrf
          have f1 : σ3 86 1 = T3 0 1 := m3.1.1.2.1
          have hP3 : T3 0 1 = T 0 1 := by rw [hT3]
          have w7 := home_ok hw3 (p := p) (by omega)
          have hlp : lv (T3 7 p) < 0 ↔ T3 7 p = 9 := by unfold lv; split <;> omega
          refine bX7_goesYears_143 ⟨by omega, by omega, fun _ => m_at (d := d + 5) m3.1 (by omega) (by omega) ⟨fun q9 => m_whereOf (d := d) m3 hw3 (by omega) (fun σ4 he4 m4 => m_go (d := d + 4) m4 hw3 (by omega) (fun σ5 he5 m5 => ?_)), fun q9 => ?_⟩, fun z => absurd z (by omega)⟩
          · have q9 := hlp.1 q9
            have e45 : Ex [86] σ3 σ5 := he4.tr he5 (fun _ h => h) (fun _ h => h)
            rw [wr1 (by omega)]
            refine ihj (p + 1) (by omega) (up T3 7 p (bsF T3 p (nS T3) 0 9 (-1))) σ5 m5 (hw3.home p (bsF_r hw3 _ _ (by omega) _ _ (Or.inl rfl))) (by rw [u70]; exact hT3) (he3.tr (l := LYe) e45 (fun _ h => h) (by simp)) (fun j hj => by rw [e45 89 (by simp)]; exact h893 j hj) (by rw [e45 85 (by simp)]; exact hg3) hgb3 (by rw [e45 85 (by simp)]; exact h39) (fun q hq => by rw [e45 107 (by simp)]; exact hw59 q hq) ?_
            rw [← hrf]
            show _ = rfF j (p + 1) (if _ then _ else _)
            rw [if_pos q9]
          · have q9 : ¬ T3 7 p = 9 := fun z => q9 (hlp.2 z)
            rw [wr1 (by omega)]
            refine ihj (p + 1) (by omega) T3 σ3 m3 hw3 hT3 he3 h893 hg3 hgb3 h39 hw59 ?_
            rw [← hrf]
            show _ = rfF j (p + 1) (if _ then _ else _)
            rw [if_neg q9]
      have k55 : ∀ j p : Nat, p + j = nP T → ∀ (z : Int) (T2 σ2 : Sg) (g2 : Int), MR σ2 T2 → WF T2 → T2 0 = T 0 → Ex LYe σ σ2 → (∀ j, j < 107 → σ2 89 j = σ 86 j) → σ2 85 38 = g2 → (0 ≤ g2 ∧ g2 ≤ 8 * y + p) → (∀ p : Nat, (p : Int) < T 0 1 → σ2 107 p = w p) → dieF dth j p z T2 g2 = D → wpL (wpCall (d + 6)) mX7_goesYears K 55 [aR 85, aI (n : Nat), aU, aI dth, aI z, aI (y : Nat), aI (p : Nat)] [] σ2 := by
        intro j
        induction j with
        | zero =>
          intro p hp z T2 σ2 g2 m2 hw2 hT2 he2 h892 hg2 hgb2 hw59 hdf
          have f1 : σ2 86 1 = T2 0 1 := m2.1.1.2.1
          have hP2 : T2 0 1 = T 0 1 := by rw [hT2]
          have hdf : (z, T2, g2) = D := hdf
          have hD1 : D.1 = z := by rw [← hdf]
          have hD2 : D.2.1 = T2 := by rw [← hdf]
          have hD3 : D.2.2 = g2 := by rw [← hdf]
          refine bX7_goesYears_55 ⟨by omega, by omega, fun z => absurd z (by omega), fun _ => ?_⟩
          rw [← hD1]
          refine k143 (nP T) 0 (by omega) T2 _ (m2.ex (l := [85]) (Ex.rf.up (by simp)) (by simp)) hw2 hT2 (he2.up (by simp)) (fun j hj => by rw [up_ne (by omega)]; exact h892 j hj) (by rw [up_nk (by omega), hD3]; exact hg2) (by omega) up_self (fun q hq => by rw [up_ne (by omega)]; exact hw59 q hq) (by rw [hD2])
        | succ j ihj =>
          intro p hp z T2 σ2 g2 m2 hw2 hT2 he2 h892 hg2 hgb2 hw59 hdf
          have f1 : σ2 86 1 = T2 0 1 := m2.1.1.2.1
          have hP2 : T2 0 1 = T 0 1 := by rw [hT2]
          have w7 := home_ok hw2 (p := p) (by omega)
          have hlp : lv (T2 7 p) < 0 ↔ T2 7 p = 9 := by unfold lv; split <;> omega
          refine bX7_goesYears_55 ⟨by omega, by omega, fun _ => m_at (d := d + 5) m2.1 (by omega) (by omega) ⟨fun q9 => ?_, fun q9 => ⟨by decide, by decide, fun q2 => m_go (d := d + 4) (v := 9) m2 hw2 (by omega) (fun σ3 he3 m3 => ?_), fun q2 => ?_⟩⟩, fun z => absurd z (by omega)⟩
          · have q9 := hlp.1 q9
            have e : dieF dth (j + 1) p z T2 g2 = dieF dth j (p + 1) z T2 g2 := by
              show (if _ then _ else _) = _
              rw [if_pos q9]
            rw [e] at hdf
            rw [wr1 (by omega)]
            exact ihj (p + 1) (by omega) z T2 σ2 g2 m2 hw2 hT2 he2 h892 hg2 (by push_cast; omega) hw59 hdf
          · have q9 : ¬ T2 7 p = 9 := fun z => q9 (hlp.2 z)
            have e : dieF dth (j + 1) p z T2 g2 = dieF dth j (p + 1) (lcg z) (up T2 7 p 9) (g2 + 1) := by
              show (if _ then _ else _) = _
              rw [if_neg q9]
              show (if drw (lcg z) < dth then _ else _) = _
              exact if_pos q2
            clear q2
            rw [e] at hdf
            rw [wr1 (by omega), he3 85 (by simp), hg2, wr_id (x := g2 + 1) ⟨by omega, by omega⟩]
            exact ihj (p + 1) (by omega) (lcg z) (up T2 7 p 9) _ (g2 + 1) (m3.ex (l := [85]) (Ex.rf.up (by simp)) (by simp)) (hw2.home p (Or.inl rfl)) (by rw [u70]; exact hT2) ((he2.tr (l := LYe) he3 (fun _ h => h) (by simp)).up (by simp)) (fun j hj => by rw [up_ne (by omega), he3 89 (by simp)]; exact h892 j hj) up_self (by push_cast; omega) (fun q hq => by rw [up_ne (by omega), he3 107 (by simp)]; exact hw59 q hq) hdf
          · have q9 : ¬ T2 7 p = 9 := fun z => q9 (hlp.2 z)
            have e : dieF dth (j + 1) p z T2 g2 = dieF dth j (p + 1) (lcg z) T2 g2 := by
              show (if _ then _ else _) = _
              rw [if_neg q9]
              show (if drw (lcg z) < dth then _ else _) = _
              exact if_neg q2
            clear q2
            rw [e] at hdf
            rw [wr1 (by omega)]
            exact ihj (p + 1) (by omega) (lcg z) T2 σ2 g2 m2 hw2 hT2 he2 h892 hg2 (by push_cast; omega) hw59 hdf
      exact bX7_goesYears_46 ⟨fun _ => k55 (nP T) 0 (by omega) z T1 σ1 g m1 hw1 hT he h89 hg (by push_cast; omega) (fun p hp => (hwt p hp).1) (by rw [hD, hnP1]), fun z => absurd z (by omega)⟩
  refine bX7_goesYears (m_copies (d := d + 5) l86 l89 (by omega) (fun σ1 he1 hi1 => ?_))
  have m1 : MR (up σ1 85 38 0) T := (h.ex he1 (by simp)).ex (l := [85]) (Ex.rf.up (by simp)) (by simp)
  have e1 : Ex LYe σ (up σ1 85 38 0) := (he1.mono (l := LYe) (by simp)).up (by simp)
  refine dwn (W := fun p => ∀ σ2, Ex [107] (up σ1 85 38 0) σ2 → (∀ q, q < p → σ2 107 q = 0) → wpL (wpCall (d + 6)) mX7_goesYears K 22 [aR 85, aI (n : Nat), aU, aI dth, aI z, aI (p : Nat), aU] [] σ2) 8 (fun σ2 he2 hz2 => ?_) (fun p hp ih σ2 he2 hz2 => ?_) 0 (Nat.zero_le _) _ Ex.rf (fun q hq => by omega)
  · refine bX7_goesYears_22 ⟨fun z => by omega, fun _ => key n 0 (by omega) z T σ2 0 (fun _ => 0) (m1.ex he2 (by simp)) hw rfl (e1.tr (l := LYe) he2 (fun _ h => h) (by simp)) (fun j hj => ?_) ?_ (by omega) (Or.inl rfl) (fun p hp => ⟨hz2 p (by omega), by omega, by omega⟩) hk⟩
    · rw [he2 89 (by simp), up_ne (by omega)]; exact hi1 j hj
    · rw [he2 85 (by simp), up_self]
  · refine bX7_goesYears_22 ⟨fun _ => ?_, fun z => by omega⟩
    rw [wr1 (by omega), Int.toNat_natCast]
    refine ⟨by omega, by omega, ih _ (he2.up (by simp)) (fun q hq => ?_)⟩
    by_cases e : q = p
    · rw [e, up_self]
    · rw [up_nk e]; exact hz2 q (by omega)
