/-! THE MODEL: shortest -/
theorem td10 {x : Nat} (h : x < 1000) : wr ((x : Int).tdiv 10) = ((x / 10 : Nat) : Int) := by
  have : ((x : Nat) : Int).tdiv 10 = ((x / 10 : Nat) : Int) := rfl
  rw [this, wr_id ⟨by omega, by omega⟩]
theorem m_areAllBetter {d n : Nat} {a : Nat → Nat} {W0 : Nat → Int} {σ T : Sg} {K : Kt} (hv : MV σ 86 T) (hw : WF T) (hn : n ≤ 3) (ha : ∀ i, i < n → σ 103 i = a i ∧ a i < 100 ∧ ((a i / 10 : Nat) : Int) < T 0 1) (hW : ∀ p : Nat, (p : Int) < T 0 1 → σ 105 p = W0 p) (h1 : allI (fun i => gained W0 T (a i)) n 0 = true → K 1 σ) (h0 : allI (fun i => gained W0 T (a i)) n 0 = false → K 0 σ) : wpCall (d + 4) iX7_areAllBetter [aR 85, aI (n : Nat)] σ K := by
  have h8 := hw.1.2.1
  have l103 : LEN 103 = 3 := rfl
  have l105 : LEN 105 = 8 := rfl
  have key : ∀ k i : Nat, i + k = n → (allI (fun i => gained W0 T (a i)) k i = true → K 1 σ) → (allI (fun i => gained W0 T (a i)) k i = false → K 0 σ) → wpL (wpCall (d + 3)) mX7_areAllBetter K 2 [aR 85, aI (n : Nat), aI (i : Nat)] [] σ := by
    intro k
    induction k with
    | zero => exact fun i hi g1 g0 => bX7_areAllBetter_2 ⟨fun h => absurd h (by omega), fun _ => ⟨by decide, g1 rfl⟩⟩
    | succ k ih =>
      intro i hi g1 g0
      rw [allI_s] at g1 g0
      obtain ⟨c1, c2, c3⟩ := ha i (by omega)
      have e1 := td10 (x := a i) (by omega)
      refine bX7_areAllBetter_2 ?_
      rw [Int.toNat_natCast, c1, e1]
      clear e1
      refine ⟨fun _ => ⟨by omega, by omega, by decide, m_worthOf (d := d) hv hw c3 ?_⟩, fun h => absurd h (by omega)⟩
      rw [c1, td10 (x := a i) (by omega), Int.toNat_natCast, hW _ c3]
      refine ⟨by omega, by omega, by decide, by omega, by omega, fun q => ?_, fun q => ⟨by decide, g0 ?_⟩⟩
      · have hg : gained W0 T (a i) = true := by unfold gained; exact decide_eq_true q
        rw [wr1 (by omega)]
        exact ih (i + 1) (by omega) (fun z => g1 (by rw [hg, z]; rfl)) (fun z => g0 (by rw [z, Bool.and_false]))
      · have hg : gained W0 T (a i) = false := by unfold gained; exact decide_eq_false q
        rw [hg]; rfl
  exact bX7_areAllBetter (key n 0 (by omega) h1 h0)
theorem m_used {d n w : Nat} {a : Nat → Nat} {σ : Sg} {K : Kt} (hn : n ≤ 3) (ha : ∀ i, i < n → σ 103 i = a i ∧ a i < 100) (hk : wpL (wpCall d) mX7_chains K 111 [aR 85, aI (n : Nat), aI (w : Nat), aI (b2i (usedB a n w)), aI 0, aU] [] σ) : wpL (wpCall d) mX7_chains K 72 [aR 85, aI (n : Nat), aI (w : Nat), aI 0, aI 0, aU] [] σ := by
  have l103 : LEN 103 = 3 := rfl
  have key : ∀ j i : Nat, i + j = n → ∀ u : Bool, (u || anyI (fun i => decide (a i / 10 = w)) j i) = usedB a n w → wpL (wpCall d) mX7_chains K 72 [aR 85, aI (n : Nat), aI (w : Nat), aI (b2i u), aI (i : Nat), aU] [] σ := by
    intro j
    induction j with
    | zero =>
      intro i hi u hu
      refine bX7_chains_72 ⟨fun z => absurd z (by omega), fun _ => ?_⟩
      rw [show anyI (fun i => decide (a i / 10 = w)) 0 i = false from rfl, Bool.or_false] at hu
      rw [hu]; exact hk
    | succ j ih =>
      intro i hi u hu
      rw [anyI_s] at hu
      obtain ⟨c1, c2⟩ := ha i (by omega)
      refine bX7_chains_72 ?_
      rw [Int.toNat_natCast, c1, td10 (by omega), wr1 (by omega)]
      refine ⟨fun _ => ⟨fun q => ⟨by omega, by omega, by decide, fun q2 => ?_, fun q2 => ?_⟩, fun q => ?_⟩, fun z => absurd z (by omega)⟩
      · refine ih (i + 1) (by omega) true ?_
        rw [← hu, decide_eq_true (show a i / 10 = w by omega), Bool.true_or, Bool.or_true]
      · have hu0 : u = false := by cases u <;> simp_all [b2i]
        refine ih (i + 1) (by omega) false ?_
        rw [← hu, hu0, decide_eq_false (show ¬ a i / 10 = w by omega)]; rfl
      · have hu1 : u = true := by cases u <;> simp_all [b2i]
        refine ih (i + 1) (by omega) true ?_
        rw [← hu, hu1]; rfl
  exact key n 0 (by omega) false (by rw [Bool.false_or]; rfl)
theorem ix107 {n j : Nat} (h : n < 4) (hj : j < 200) : wr (wr (107 * (n : Int)) + (j : Int)) = ((107 * n + j : Nat) : Int) := by unfold wr; push_cast; omega
theorem m_rest {d n w s : Nat} {u : Int} {σ0 σ T : Sg} {K : Kt} (hn : n < 3) (h : MR σ0 T) (hw : WF T) (hs : ∀ j, j < 107 → σ 106 (107 * n + j) = σ0 86 j) (hk : ∀ σ', Ex [86] σ σ' → MR σ' T → (σ' 85 36 = 0 → wpL (wpCall d) mX7_chains K 111 [aR 85, aI (n : Nat), aI (w : Nat), aI u, aI (wr ((s : Int) + 1)), aU] [] σ') ∧ (¬ σ' 85 36 = 0 → K 0 σ')) : wpL (wpCall d) mX7_chains K 200 [aR 85, aI (n : Nat), aI (w : Nat), aI u, aI (s : Nat), aI 0] [] σ := by
  have l86 : LEN 86 = 107 := rfl
  have l106 : LEN 106 = 321 := rfl
  refine dwn (W := fun j => ∀ σ1, Ex [86] σ σ1 → (∀ i, i < j → σ1 86 i = σ0 86 i) → wpL (wpCall d) mX7_chains K 200 [aR 85, aI (n : Nat), aI (w : Nat), aI u, aI (s : Nat), aI (j : Nat)] [] σ1) 107 (fun σ1 he hi => ?_) (fun j hj ih σ1 he hi => ?_) 0 (Nat.zero_le _) σ Ex.rf (fun i hi => by omega)
  · exact bX7_chains_200 ⟨fun z => by omega, fun _ => hk σ1 he ⟨h.1.cp hw hi, h.2.cp hw hi⟩⟩
  · refine bX7_chains_200 ⟨fun _ => ?_, fun z => by omega⟩
    rw [ix107 (by omega) (by omega), wr1 (by omega), Int.toNat_natCast, Int.toNat_natCast, he 106 (by simp), hs j hj]
    refine ⟨by omega, by omega, by omega, by omega, ih _ (he.up (by simp)) (fun i hi2 => ?_)⟩
    by_cases e : i = j
    · rw [e, up_self]
    · rw [up_nk e]; exact hi i (by omega)
abbrev LCh : List Nat := [85, 86, 90, 91, 103, 104, 106]
theorem m_chains {W0 : Nat → Int} {N : Nat} (hN : N ≤ 3) : ∀ (k : Nat) {d n : Nat} {a : Nat → Nat} {σ T : Sg} {K : Kt}, MR σ T → WF T → n + k = N → σ 85 35 = N → σ 85 36 = 0 → (∀ i, i < n → σ 103 i = a i ∧ a i < 100 ∧ ((a i / 10 : Nat) : Int) < T 0 1) → (∀ p : Nat, (p : Int) < T 0 1 → σ 105 p = W0 p) →
    (∀ b, ch W0 k n T a = some b → ∀ σ', Ex LCh σ σ' → σ' 85 36 = 1 → σ' 85 35 = N → MR σ' T → (∀ j, j < 107 * n → σ' 106 j = σ 106 j) → (∀ i, i < N → σ' 104 i = b i ∧ b i < 100) → K 0 σ') → (ch W0 k n T a = none → ∀ σ', Ex LCh σ σ' → σ' 85 36 = 0 → σ' 85 35 = N → MR σ' T → (∀ j, j < 107 * n → σ' 106 j = σ 106 j) → (∀ i, i < n → σ' 103 i = σ 103 i) → K 0 σ') →
    wpCall (d + k + 7) iX7_chains [aR 85, aI (n : Nat)] σ K
  | 0, d, n, a, σ, T, K, h, hw, hnk, h35, h36, ha, hW, h1, h0 => by
    have l103 : LEN 103 = 3 := rfl
    have l104 : LEN 104 = 3 := rfl
    have hnN : n = N := by omega
    subst hnN
    refine bX7_chains ⟨fun _ => m_isLawful (d := d + 1) h.1 hw (g2 (fun y => m_areAllBetter (d := d + 2) h.1 hw hN ha hW (fun y2 => ⟨fun z => absurd z (by decide), fun _ => ⟨by decide, ?_⟩⟩) (fun y2 => ⟨fun _ => h0 (by show (if _ then _ else _) = _; rw [y2]; rfl) σ Ex.rf h36 h35 h (fun _ _ => rfl) (fun _ _ => rfl), fun z => absurd rfl z⟩)) (fun y => h0 (by show (if _ then _ else _) = _; rw [y, Bool.and_false]; rfl) σ Ex.rf h36 h35 h (fun _ _ => rfl) (fun _ _ => rfl))), fun z => absurd h35.symm z⟩
    have hc : ch W0 0 n T a = some a := by show (if _ then _ else _) = _; rw [y, y2]; rfl
    refine dwn (W := fun j => ∀ σ1, Ex [104] (up σ 85 36 1) σ1 → (∀ i, i < j → σ1 104 i = a i) → wpL (wpCall (d + 6)) mX7_chains K 31 [aR 85, aI (n : Nat), aI (j : Nat), aU, aU, aU] [] σ1) n (fun σ1 he hi => ?_) (fun j hj ih σ1 he hi => ?_) 0 (Nat.zero_le _) _ Ex.rf (fun i hi => by omega)
    · have e2 : Ex LCh σ σ1 := (Ex.rf.up (by simp)).tr (l := LCh) (l1 := LCh) he (fun _ h => h) (by simp)
      refine bX7_chains_31 ⟨fun z => by omega, fun _ => h1 a hc σ1 e2 ?_ ?_ ((h.ex (l := [85]) (Ex.rf.up (by simp)) (by simp)).ex he (by simp)) (fun j hj => ?_) (fun i hi2 => ⟨hi i hi2, (ha i hi2).2.1⟩)⟩
      · rw [he 85 (by simp), up_self]
      · rw [he 85 (by simp), up_nk (by omega)]; exact h35
      · rw [he 106 (by simp), up_ne (by omega)]
    · refine bX7_chains_31 ⟨fun _ => ?_, fun z => by omega⟩
      rw [Int.toNat_natCast, he 103 (by simp), up_ne (by omega), (ha j hj).1, wr1 (by omega)]
      refine ⟨by omega, by omega, by omega, by omega, ih _ (he.up (by simp)) (fun i hi2 => ?_)⟩
      by_cases e : i = j
      · rw [e, up_self]
      · rw [up_nk e]; exact hi i (by omega)
  | k + 1, d, n, a, σ, T, K, h, hw, hnk, h35, h36, ha, hW, h1, h0 => by
    have l86 : LEN 86 = 107 := rfl
    have l103 : LEN 103 = 3 := rfl
    have l106 : LEN 106 = 321 := rfl
    have h8 := hw.1.2.1
    have h5 := hw.1.1
    have hnP : ((nP T : Nat) : Int) = T 0 1 := Int.toNat_of_nonneg h8.1
    have hnS : ((nS T : Nat) : Int) = T 0 0 := Int.toNat_of_nonneg h5.1
    have key : ∀ j w : Nat, w + j = nP T → ∀ σ1, Ex LCh σ σ1 → MR σ1 T → σ1 85 35 = N → σ1 85 36 = 0 → (∀ j, j < 107 * n → σ1 106 j = σ 106 j) → (∀ i, i < n → σ1 103 i = σ 103 i) → (∀ x, fsI (fun w => if usedB a n w then none else fsI (fun s => if wants T w s then ch W0 k (n + 1) (up T 7 w s) (fun i => if i = n then 10 * w + s else a i) else none) (nS T) 0) j w = x → ch W0 (k + 1) n T a = x) → wpL (wpCall (d + (k + 1) + 6)) mX7_chains K 57 [aR 85, aI (n : Nat), aI (w : Nat), aU, aU, aU] [] σ1 := by
      intro j
      induction j with
      | zero =>
        intro w hp σ1 he m1 q35 q36 q106 q103 g
        have f1 : σ1 86 1 = T 0 1 := m1.1.1.2.1
        exact bX7_chains_57 ⟨by omega, by omega, fun z => absurd z (by omega), fun _ => h0 (g none rfl) σ1 he q36 q35 m1 q106 q103⟩
      | succ j ih =>
        intro w hp σ1 he m1 q35 q36 q106 q103 g
        have f1 : σ1 86 1 = T 0 1 := m1.1.1.2.1
        refine bX7_chains_57 ⟨by omega, by omega, fun _ => m_used (a := a) (by omega) (fun i hi => by rw [q103 i hi]; exact ⟨(ha i hi).1, (ha i hi).2.1⟩) ?_, fun z => absurd z (by omega)⟩
        by_cases hu : usedB a n w = true
        · have nx : wpL (wpCall (d + (k + 1) + 6)) mX7_chains K 57 [aR 85, aI (n : Nat), aI (wr ((w : Int) + 1)), aU, aU, aU] [] σ1 := by
            rw [wr1 (by omega)]
            refine ih (w + 1) (by omega) σ1 he m1 q35 q36 q106 q103 (fun x hx => g x ?_)
            unfold fsI
            rw [if_pos hu]
            exact hx
          rw [hu]
          exact bX7_chains_111 ⟨by omega, by omega, fun _ => ⟨fun z => absurd z (by decide), fun _ => nx⟩, fun _ => nx⟩
        have hu : usedB a n w = false := by simpa using hu
        rw [hu]
        have ks : ∀ q s : Nat, s + q = nS T → ∀ σ2, Ex LCh σ σ2 → MR σ2 T → σ2 85 35 = N → σ2 85 36 = 0 → (∀ j, j < 107 * n → σ2 106 j = σ 106 j) → (∀ i, i < n → σ2 103 i = σ 103 i) → (∀ x, fsI (fun s => if wants T w s then ch W0 k (n + 1) (up T 7 w s) (fun i => if i = n then 10 * w + s else a i) else none) q s = x → fsI (fun s => if wants T w s then ch W0 k (n + 1) (up T 7 w s) (fun i => if i = n then 10 * w + s else a i) else none) (nS T) 0 = x) → wpL (wpCall (d + (k + 1) + 6)) mX7_chains K 111 [aR 85, aI (n : Nat), aI (w : Nat), aI 0, aI (s : Nat), aU] [] σ2 := by
          intro q
          induction q with
          | zero =>
            intro s hs σ2 he2 m2 q35 q36 q106 q103 gs
            have f0 : σ2 86 0 = T 0 0 := m2.1.1.1
            refine bX7_chains_111 ⟨by omega, by omega, fun z => absurd z (by omega), fun _ => ?_⟩
            rw [wr1 (by omega)]
            refine ih (w + 1) (by omega) σ2 he2 m2 q35 q36 q106 q103 (fun x hx => g x ?_)
            unfold fsI
            rw [if_neg (by simp [hu]), gs none rfl]
            exact hx
          | succ q ihq =>
            intro s hs σ2 he2 m2 q35 q36 q106 q103 gs
            have f0 : σ2 86 0 = T 0 0 := m2.1.1.1
            refine bX7_chains_111 ⟨by omega, by omega, fun _ => ⟨fun _ => ?_, fun z => absurd rfl z⟩, fun z => absurd z (by omega)⟩
            have hsT : (s : Int) < T 0 0 := by omega
            have hwT : (w : Int) < T 0 1 := by omega
            refine dwn (W := fun j => ∀ σ3, Ex [106] σ2 σ3 → (∀ i, i < j → σ3 106 (107 * n + i) = σ2 86 i) → (∀ i, i < 107 * n → σ3 106 i = σ2 106 i) → wpL (wpCall (d + (k + 1) + 6)) mX7_chains K 129 [aR 85, aI (n : Nat), aI (w : Nat), aI 0, aI (s : Nat), aI (j : Nat)] [] σ3) 107 (fun σ3 he3 hi3 hb3 => ?_) (fun j hj ihj σ3 he3 hi3 hb3 => ?_) 0 (Nat.zero_le _) σ2 Ex.rf (fun i hi => by omega) (fun _ _ => rfl)
            · refine bX7_chains_129 ⟨fun z => by omega, fun _ => m_tryOne (d := d + (k + 1)) (m2.ex he3 (by simp)) hw hwT hsT (fun σ4 he4 hf4 h90 m4 h24 h25 => ?_)⟩
              rw [h24]
              have he3' : Ex LCh σ σ3 := he2.tr (l := LCh) he3 (fun _ h => h) (by simp)
              have he4' : Ex LCh σ σ4 := he3'.tr (l := LCh) he4 (fun _ h => h) (by simp)
              have p35 : σ4 85 35 = N := by rw [hf4 35 (by simp), he3 85 (by simp)]; exact q35
              have p36 : σ4 85 36 = 0 := by rw [hf4 36 (by simp), he3 85 (by simp)]; exact q36
              have p106 : ∀ j, j < 107 * n → σ4 106 j = σ 106 j := fun j hj => by rw [he4 106 (by simp), hb3 j hj]; exact q106 j hj
              have ps : ∀ j, j < 107 → σ4 106 (107 * n + j) = σ2 86 j := fun j hj => by rw [he4 106 (by simp)]; exact hi3 j hj
              have p103 : ∀ i, i < n → σ4 103 i = σ 103 i := fun i hi => by rw [he4 103 (by simp), he3 103 (by simp)]; exact q103 i hi
              refine g2 (fun y => ?_) (fun y => ?_)
              · rw [Int.toNat_natCast, wr1 (by omega), ix10 (by omega) (by omega)]
                have heU : Ex LCh σ (up σ4 103 n ((10 * w + s : Nat) : Int)) := he4'.up (by simp)
                refine ⟨by omega, by omega, wcq (m_chains (W0 := W0) hN k (d := d) (n := n + 1) (a := fun i => if i = n then 10 * w + s else a i) (m4.ex (l := [103]) (Ex.rf.up (by simp)) (by simp)) (hw.home w (by omega)) (by omega) (by rw [up_ne (by omega)]; exact p35) (by rw [up_ne (by omega)]; exact p36) (fun i hi => ?_) (fun p hp => ?_) (fun b hbq σ5 he5 r36 r35 m5 r106 r104 => ?_) (fun hbq σ5 he5 r36 r35 m5 r106 r103 => ?_)) rfl⟩
                · rw [u70]
                  by_cases e : i = n
                  · subst e
                    rw [up_self, if_pos rfl]
                    exact ⟨rfl, by omega, by omega⟩
                  · rw [up_nk e, if_neg e, p103 i (by omega)]
                    exact ha i (by omega)
                · rw [u70] at hp
                  rw [up_ne (by omega), he4' 105 (by simp)]
                  exact hW p hp
                · have hs5 : ∀ j, j < 107 → σ5 106 (107 * n + j) = σ2 86 j := fun j hj => by rw [r106 _ (by omega), up_ne (by omega)]; exact ps j hj
                  refine m_rest (by omega) m2 hw hs5 (fun σ6 he6 m6 => ?_)
                  rw [he6 85 (by simp), r36]
                  refine ⟨fun z => absurd z (by decide), fun _ => h1 b ?_ σ6 ((heU.tr (l := LCh) he5 (fun _ h => h) (fun _ h => h)).tr (l := LCh) he6 (fun _ h => h) (by simp)) (by rw [he6 85 (by simp)]; exact r36) (by rw [he6 85 (by simp)]; exact r35) m6 (fun j hj => ?_) (fun i hi => ?_)⟩
                  · refine g _ ?_
                    unfold fsI
                    rw [if_neg (by simp [hu]), gs (some b) (by unfold fsI; rw [if_pos y, hbq])]
                  · rw [he6 106 (by simp), r106 j (by omega), up_ne (by omega)]; exact p106 j hj
                  · rw [he6 104 (by simp)]; exact r104 i hi
                · have hs5 : ∀ j, j < 107 → σ5 106 (107 * n + j) = σ2 86 j := fun j hj => by rw [r106 _ (by omega), up_ne (by omega)]; exact ps j hj
                  refine m_rest (by omega) m2 hw hs5 (fun σ6 he6 m6 => ?_)
                  rw [he6 85 (by simp), r36]
                  refine ⟨fun _ => ?_, fun z => absurd rfl z⟩
                  rw [wr1 (by omega)]
                  refine ihq (s + 1) (by omega) σ6 ((heU.tr (l := LCh) he5 (fun _ h => h) (fun _ h => h)).tr (l := LCh) he6 (fun _ h => h) (by simp)) m6 (by rw [he6 85 (by simp)]; exact r35) (by rw [he6 85 (by simp)]; exact r36) (fun j hj => ?_) (fun i hi => ?_) (fun x hx => gs x ?_)
                  · rw [he6 106 (by simp), r106 j (by omega), up_ne (by omega)]; exact p106 j hj
                  · rw [he6 103 (by simp), r103 i (by omega), up_nk (by omega)]; exact p103 i hi
                  · unfold fsI
                    rw [if_pos y, hbq]
                    exact hx
              · refine m_rest (by omega) m2 hw ps (fun σ6 he6 m6 => ?_)
                rw [he6 85 (by simp), p36]
                refine ⟨fun _ => ?_, fun z => absurd rfl z⟩
                rw [wr1 (by omega)]
                refine ihq (s + 1) (by omega) σ6 (he4'.tr (l := LCh) he6 (fun _ h => h) (by simp)) m6 (by rw [he6 85 (by simp)]; exact p35) (by rw [he6 85 (by simp)]; exact p36) (fun j hj => by rw [he6 106 (by simp)]; exact p106 j hj) (fun i hi => by rw [he6 103 (by simp)]; exact p103 i hi) (fun x hx => gs x ?_)
                unfold fsI
                rw [if_neg (by simp [y])]
                exact hx
            · refine bX7_chains_129 ⟨fun _ => ?_, fun z => by omega⟩
              rw [ix107 (by omega) (by omega), wr1 (by omega), Int.toNat_natCast, Int.toNat_natCast, he3 86 (by simp)]
              refine ⟨by omega, by omega, by omega, by omega, ihj _ (he3.up (by simp)) (fun i hi => ?_) (fun i hi => ?_)⟩
              · by_cases e : i = j
                · rw [e, up_self]
                · rw [up_nk (by omega)]; exact hi3 i (by omega)
              · rw [up_nk (by omega)]; exact hb3 i hi
        exact ks (nS T) 0 (by omega) σ1 he m1 q35 q36 q106 q103 (fun x hx => hx)
    exact bX7_chains ⟨fun z => absurd z (by omega), fun _ => key (nP T) 0 (by omega) σ Ex.rf h h35 h36 (fun _ _ => rfl) (fun _ _ => rfl) (fun x hx => hx)⟩
abbrev LSh : List Nat := [85, 86, 90, 91, 103, 104, 105, 106]
def shV (o : Option (Nat × (Nat → Nat))) (x : Int) : Int := match o with
  | none => -4
  | some (n, a) => if x < 0 then (n : Int) else if x < n then (a x.toNat : Int) else -4
theorem m_shortest {d : Nat} {x : Int} {σ T : Sg} {K : Kt} (h : MR σ T) (hw : WF T) (hn : x < -1 → K (-1) σ) (hk : ¬ x < -1 → ∀ σ', Ex LSh σ σ' → MR σ' T → K (shV (shF T) x) σ') : wpCall (d + 3 + 8) iX7_shortest [aR 85, aI x] σ K := by
  have l86 : LEN 86 = 107 := rfl
  have l105 : LEN 105 = 8 := rfl
  have l104 : LEN 104 = 3 := rfl
  have h8 := hw.1.2.1
  have hnP : ((nP T : Nat) : Int) = T 0 1 := Int.toNat_of_nonneg h8.1
  refine bX7_shortest ⟨hn, fun hx => ?_⟩
  have hk := hk hx
  have fin : ∀ (σ1 : Sg), Ex LSh σ σ1 → MR σ1 T → (∀ n a, shF T = some (n, a) → n ≤ 3 ∧ σ1 85 36 = 1 ∧ σ1 85 35 = n ∧ ∀ i, i < n → σ1 104 i = a i ∧ a i < 100) → (shF T = none → σ1 85 36 = 0) → (σ1 85 36 = 0 → K (-4) σ1) ∧ (¬ σ1 85 36 = 0 → (x < 0 → K (σ1 85 35) σ1) ∧ (¬ x < 0 → (x < σ1 85 35 → 0 ≤ x ∧ x < LEN 104 ∧ K (σ1 104 x.toNat) σ1) ∧ (¬ x < σ1 85 35 → K (-4) σ1))) := by
    intro σ1 he m1 g1 g0
    have hk := hk σ1 he m1
    cases hs : shF T with
    | none => rw [hs] at hk; exact ⟨fun _ => hk, fun z => absurd (g0 hs) z⟩
    | some q =>
      obtain ⟨n, a⟩ := q
      obtain ⟨c0, c1, c2, c3⟩ := g1 n a hs
      rw [hs] at hk
      have hk : K (if x < 0 then (n : Int) else if x < n then (a x.toNat : Int) else -4) σ1 := hk
      rw [c1, c2]
      refine ⟨fun z => absurd z (by decide), fun _ => ⟨fun q => ?_, fun q => ⟨fun q2 => ⟨by omega, by omega, ?_⟩, fun q2 => ?_⟩⟩⟩
      · rw [if_pos q] at hk; exact hk
      · rw [if_neg q, if_pos q2] at hk
        rw [(c3 x.toNat (by omega)).1]; exact hk
      · rw [if_neg q, if_neg q2] at hk; exact hk
  have k43 : ∀ j n : Nat, n + j = 4 → 1 ≤ n → ∀ σ1, Ex LSh σ σ1 → MR σ1 T → (∀ p : Nat, (p : Int) < T 0 1 → σ1 105 p = wNow T p) → σ1 85 36 = 0 → (∀ x, fsI (fun n => (ch (wNow T) n 0 T (fun _ => 0)).map (fun a => (n, a))) j n = x → shF T = x) → wpL (wpCall (d + 3 + 7)) mX7_shortest K 43 [aR 85, aI x, aI (n : Nat)] [] σ1 := by
    intro j
    induction j with
    | zero =>
      intro n hn hn1 σ1 he m1 hW h36 g
      have hs := g none rfl
      refine bX7_shortest_43 ⟨fun z => absurd z (by omega), fun _ => fin σ1 he m1 (fun n a z => by rw [hs] at z; cases z) (fun _ => h36)⟩
    | succ j ih =>
      intro n hn hn1 σ1 he m1 hW h36 g
      refine bX7_shortest_43 ⟨fun _ => ⟨fun _ => ?_, fun z => absurd h36 z⟩, fun z => absurd z (by omega)⟩
      have he2 : Ex LSh σ (up σ1 85 35 n) := he.up (by simp)
      have m2 : MR (up σ1 85 35 n) T := m1.ex (l := [85]) (Ex.rf.up (by simp)) (by simp)
      have hgo := fun (K2 : Kt) => m_chains (W0 := wNow T) (N := n) (by omega) n (d := d + 3 - n) (n := 0) (a := fun _ => 0) (σ := up σ1 85 35 n) (K := K2) m2 hw (by omega) up_self (by rw [up_nk (by omega)]; exact h36) (fun i hi => by omega) (fun p hp => by rw [up_ne (by omega)]; exact hW p hp)
      have ed : d + 3 - n + n + 7 = d + 3 + 7 := by omega
      rw [ed] at hgo
      refine hgo _ (fun b hbq σ3 he3 r36 r35 m3 _ r104 => ?_) (fun hbq σ3 he3 r36 r35 m3 _ _ => ?_)
      · have hs : shF T = some (n, b) := g _ (by unfold fsI; rw [hbq]; rfl)
        have he3' : Ex LSh σ σ3 := he2.tr (l := LSh) he3 (fun _ h => h) (by simp)
        have ff := fin σ3 he3' m3 (fun n' a' z => by
          rw [hs] at z
          cases z
          exact ⟨by omega, r36, r35, r104⟩) (fun z => by rw [hs] at z; cases z)
        rw [wr1 (by omega)]
        exact bX7_shortest_43 ⟨fun _ => ⟨fun z => by rw [r36] at z; exact absurd z (by decide), fun _ => ff⟩, fun _ => ff⟩
      · rw [wr1 (by omega)]
        refine ih (n + 1) (by omega) (by omega) σ3 (he2.tr (l := LSh) he3 (fun _ h => h) (by simp)) m3 (fun p hp => by rw [he3 105 (by simp), up_ne (by omega)]; exact hW p hp) r36 (fun x hx => g x ?_)
        unfold fsI
        rw [hbq]
        exact hx
  refine dwn (W := fun p => ∀ σ1, Ex [105] σ σ1 → (∀ q : Nat, q < p → σ1 105 q = wNow T q) → wpL (wpCall (d + 3 + 7)) mX7_shortest K 9 [aR 85, aI x, aI (p : Nat)] [] σ1) (nP T) (fun σ1 he hi => ?_) (fun p hp ih σ1 he hi => ?_) 0 (Nat.zero_le _) σ Ex.rf (fun q hq => by omega)
  · have m1 := h.ex he (by simp)
    have f1 : σ1 86 1 = T 0 1 := m1.1.1.2.1
    refine bX7_shortest_9 ⟨by omega, by omega, fun z => absurd z (by omega), fun _ => ⟨by decide, k43 3 1 rfl (by omega) _ ((he.mono (l := LSh) (by simp)).up (by simp)) (m1.ex (l := [85]) (Ex.rf.up (by simp)) (by simp)) (fun p hp => by rw [up_ne (by omega)]; exact hi p (by omega)) up_self (fun x hx => hx)⟩⟩
  · have m1 := h.ex he (by simp)
    have f1 : σ1 86 1 = T 0 1 := m1.1.1.2.1
    refine bX7_shortest_9 ⟨by omega, by omega, fun _ => m_worthOf (d := d + 3 + 4) m1.1 hw (by omega) ⟨by omega, by omega, ?_⟩, fun z => absurd hp (by omega)⟩
    rw [wr1 (by omega), Int.toNat_natCast]
    refine ih _ (he.up (by simp)) (fun q hq => ?_)
    by_cases e : q = p
    · rw [e, up_self]
    · rw [up_nk e]; exact hi q (by omega)
