/-! copy -/
abbrev R3 (x : Int) : Prop := -2147483648 ≤ x ∧ x ≤ 2147483647
theorem x_hasPlaces {k d n : Nat} {i c : Int} {σ : Sg} {K : Kt} (hd : d < 8) (e3 : σ (61 + 3 * d) 3 = n) (hn : n ≤ 100) (hi : R3 i) (h1 : (0 ≤ i ∧ 0 ≤ c) ∧ i + c ≤ n → K 1 σ) (h0 : ¬ ((0 ≤ i ∧ 0 ≤ c) ∧ i + c ≤ n) → K 0 σ) : wpCall (k + 1) iX2_hasPlaces [aR (61 + 3 * d), aI i, aI c] σ K := by
  have s1 := (shf_d hd).1
  refine bX2_hasPlaces ⟨fun q => ⟨by decide, h0 (by omega)⟩, fun q => ⟨fun q2 => ⟨by decide, h0 (by omega)⟩, fun q2 => ⟨s1, ?_⟩⟩⟩
  rw [e3]
  refine ⟨fun q3 => ⟨by decide, h0 (by omega)⟩, fun q3 => ⟨s1, ?_⟩⟩
  rw [wr_id ⟨by omega, by omega⟩]
  exact ⟨fun q4 => ⟨by decide, h0 (by omega)⟩, fun q4 => ⟨by decide, h1 (by omega)⟩⟩
def copF (σ : Sg) (x i y j n : Int) : Int := if (0 ≤ x ∧ x < 8) ∧ (0 ≤ y ∧ y < 8) then (if σ 92 x.toNat = 0 ∨ σ 92 y.toNat = 0 then -11 else if σ 92 x.toNat = 2 ∧ σ 92 y.toNat = 2 ∧ σ 93 x.toNat = σ 93 y.toNat then (if ((0 ≤ i ∧ 0 ≤ n) ∧ i + n ≤ σ 94 x.toNat) ∧ ((0 ≤ j ∧ 0 ≤ n) ∧ j + n ≤ σ 94 y.toNat) then 0 else -13) else -12) else -1
theorem ix3 {D i k : Nat} (h : D < 9) (hi : i < 300) (hk : k < 300) : wr (wr (wr (100 * (D : Int)) + (i : Int)) + (k : Int)) = ((100 * D + i + k : Nat) : Int) := by unfold wr; push_cast; omega
theorem wrn1 {n k : Nat} (h : n ≤ 100) (hk : k < n) : wr (wr ((n : Int) - 1) - (k : Int)) = ((n - 1 - k : Nat) : Int) := by unfold wr; omega
theorem m_copy122 {d e i j n : Nat} {σ : Sg} {K : Kt} (hd : d < 8) (he : e < 8) (hi : i + n ≤ 100) (hj : j + n ≤ 100) (hk : ∀ σ', (∀ a, a ≠ 95 → ∀ k, σ' a k = σ a k) → (∀ c, c < n → σ' 95 (100 * e + j + c) = σ 95 (100 * d + i + c)) → (∀ k, ¬ (100 * e + j ≤ k ∧ k < 100 * e + j + n) → σ' 95 k = σ 95 k) → K (n : Nat) σ') : wpL (wpCall 19) mX7_copy K 122 [aR 85, aI (d : Nat), aI (i : Nat), aI (e : Nat), aI (j : Nat), aI (n : Nat), aI 0, aU] [] σ := by
  have l95 := l92.2.2.2.1
  by_cases q : j < i
  · refine dwn (W := fun k => ∀ σ1, (∀ a, a ≠ 95 → ∀ k, σ1 a k = σ a k) → (∀ c, c < k → σ1 95 (100 * e + j + c) = σ 95 (100 * d + i + c)) → (∀ x, ¬ (100 * e + j ≤ x ∧ x < 100 * e + j + k) → σ1 95 x = σ 95 x) → wpL (wpCall 19) mX7_copy K 122 [aR 85, aI (d : Nat), aI (i : Nat), aI (e : Nat), aI (j : Nat), aI (n : Nat), aI (k : Nat), aU] [] σ1) n (fun σ1 o1 c1 z1 => ?_) (fun k hk2 ih σ1 o1 c1 z1 => ?_) 0 (Nat.zero_le _) σ (fun _ _ _ => rfl) (fun c hc => by omega) (fun _ _ => rfl)
    · exact bX7_copy_122 ⟨fun z => by omega, fun _ => hk σ1 o1 c1 z1⟩
    · refine bX7_copy_122 ⟨fun _ => ⟨fun _ => ?_, fun z => by omega⟩, fun z => by omega⟩
      rw [ix3 (by omega) (by omega) (by omega), ix3 (by omega) (by omega) (by omega), wr1 (by omega), Int.toNat_natCast, Int.toNat_natCast, z1 (100 * d + i + k) (by omega)]
      refine ⟨by omega, by omega, by omega, by omega, ih _ (fun a ha k => by rw [up_ne ha]; exact o1 a ha k) (fun c hc => ?_) (fun x hx => ?_)⟩
      · by_cases y : c = k
        · rw [y, up_self]
        · rw [up_nk (by omega)]; exact c1 c (by omega)
      · rw [up_nk (by omega)]; exact z1 x (by omega)
  · refine dwn (W := fun k => ∀ σ1, (∀ a, a ≠ 95 → ∀ k, σ1 a k = σ a k) → (∀ c, n - k ≤ c → c < n → σ1 95 (100 * e + j + c) = σ 95 (100 * d + i + c)) → (∀ x, ¬ (100 * e + j + (n - k) ≤ x ∧ x < 100 * e + j + n) → σ1 95 x = σ 95 x) → wpL (wpCall 19) mX7_copy K 122 [aR 85, aI (d : Nat), aI (i : Nat), aI (e : Nat), aI (j : Nat), aI (n : Nat), aI (k : Nat), aU] [] σ1) n (fun σ1 o1 c1 z1 => ?_) (fun k hk2 ih σ1 o1 c1 z1 => ?_) 0 (Nat.zero_le _) σ (fun _ _ _ => rfl) (fun c hc hc2 => by omega) (fun _ _ => rfl)
    · exact bX7_copy_122 ⟨fun z => by omega, fun _ => hk σ1 o1 (fun c hc => c1 c (by omega) hc) (fun x hx => z1 x (by omega))⟩
    · refine bX7_copy_122 ⟨fun _ => ⟨fun z => by omega, fun _ => ?_⟩, fun z => by omega⟩
      rw [wrn1 (by omega) hk2, ix3 (by omega) (by omega) (by omega), ix3 (by omega) (by omega) (by omega), wr1 (by omega), Int.toNat_natCast, Int.toNat_natCast, z1 (100 * d + i + (n - 1 - k)) (by omega)]
      refine ⟨by omega, by omega, by omega, by omega, ih _ (fun a ha k => by rw [up_ne ha]; exact o1 a ha k) (fun c hc hc2 => ?_) (fun x hx => ?_)⟩
      · by_cases y : c = n - 1 - k
        · rw [y, up_self]
        · rw [up_nk (by omega)]; exact c1 c (by omega) hc2
      · rw [up_nk (by omega)]; exact z1 x (by omega)
theorem y_copy {x i y j n : Int} {σ : Sg} {K : Kt} (hs : ∀ d, d < 8 → σ 92 d = 2 → 0 ≤ σ 94 d ∧ σ 94 d ≤ 100) (hi : R3 i) (hj : R3 j) (hn : R3 n) (h0 : copF σ x i y j n ≠ 0 → K (copF σ x i y j n) σ) (h1 : copF σ x i y j n = 0 → wpL (wpCall 19) mX7_copy K 122 [aR 85, aI x, aI i, aI y, aI j, aI n, aI 0, aU] [] σ) : wpCall 20 iX7_copy [aR 85, aI x, aI i, aI y, aI j, aI n] σ K := by
  have := l92
  have kk : ∀ v : Int, v ≠ 0 → copF σ x i y j n = v → K v σ := fun v hv e => by rw [e] at h0; exact h0 hv
  refine bX7_copy (y_isShelf (fun g => br_f2 (by decide) (y_isShelf (fun g2 => br_f2 (by decide) ?_) (fun g2 => br_t2 rfl (kk _ (by decide) ?_)))) (fun g => br_t2 rfl (kk _ (by decide) ?_)))
  · refine ⟨by omega, by omega, fun q => kk _ (by decide) ?_, fun q => ⟨by omega, by omega, fun q2 => kk _ (by decide) ?_, fun q2 => ⟨by omega, by omega, fun q3 => ⟨by omega, by omega, fun q4 => ⟨by omega, by omega, by omega, by omega, fun q5 => ?_, fun q5 => kk _ (by decide) ?_⟩, fun q4 => kk _ (by decide) ?_⟩, fun q3 => kk _ (by decide) ?_⟩⟩⟩
    · unfold copF; rw [if_pos ⟨g, g2⟩, if_pos (Or.inl q)]
    · unfold copF; rw [if_pos ⟨g, g2⟩, if_pos (Or.inr q2)]
    · have e : copF σ x i y j n = if ((0 ≤ i ∧ 0 ≤ n) ∧ i + n ≤ σ 94 x.toNat) ∧ ((0 ≤ j ∧ 0 ≤ n) ∧ j + n ≤ σ 94 y.toNat) then 0 else -13 := by
        unfold copF; rw [if_pos ⟨g, g2⟩, if_neg (fun z => z.elim q q2), if_pos ⟨q3, q4, q5⟩]
      have sx := hs x.toNat (by omega) q3
      have sy := hs y.toNat (by omega) q4
      have no : ¬ (((0 ≤ i ∧ 0 ≤ n) ∧ i + n ≤ σ 94 x.toNat) ∧ ((0 ≤ j ∧ 0 ≤ n) ∧ j + n ≤ σ 94 y.toNat)) → K (-13) σ := fun z => kk _ (by decide) (by rw [e, if_neg z])
      refine ⟨fun z1 => no (by omega), fun z1 => ⟨fun z2 => no (by omega), fun z2 => ⟨fun z3 => no (by omega), fun z3 => ⟨by omega, by omega, ?_⟩⟩⟩⟩
      rw [wr_id (x := σ 94 x.toNat - i) ⟨by omega, by omega⟩]
      refine ⟨fun z4 => no (by omega), fun z4 => ⟨by omega, by omega, ?_⟩⟩
      rw [wr_id (x := σ 94 y.toNat - j) ⟨by omega, by omega⟩]
      exact ⟨fun z5 => no (by omega), fun z5 => h1 (by rw [e, if_pos (by omega)])⟩
    · unfold copF; rw [if_pos ⟨g, g2⟩, if_neg (fun z => z.elim q q2), if_neg (fun z => q5 z.2.2)]
    · unfold copF; rw [if_pos ⟨g, g2⟩, if_neg (fun z => z.elim q q2), if_neg (fun z => q4 z.2.1)]
    · unfold copF; rw [if_pos ⟨g, g2⟩, if_neg (fun z => z.elim q q2), if_neg (fun z => q3 z.1)]
  · unfold copF; rw [if_neg (fun z => g2 z.2)]
  · unfold copF; rw [if_neg (fun z => g z.1)]
theorem copF_0 {σ : Sg} {x i y j n : Int} (h : copF σ x i y j n = 0) : ((0 ≤ x ∧ x < 8) ∧ (0 ≤ y ∧ y < 8)) ∧ (σ 92 x.toNat = 2 ∧ σ 92 y.toNat = 2 ∧ σ 93 x.toNat = σ 93 y.toNat) ∧ ((0 ≤ i ∧ 0 ≤ n) ∧ i + n ≤ σ 94 x.toNat) ∧ ((0 ≤ j ∧ 0 ≤ n) ∧ j + n ≤ σ 94 y.toNat) := by
  unfold copF at h
  by_cases q1 : (0 ≤ x ∧ x < 8) ∧ (0 ≤ y ∧ y < 8)
  · rw [if_pos q1] at h
    by_cases q2 : σ 92 x.toNat = 0 ∨ σ 92 y.toNat = 0
    · rw [if_pos q2] at h; exact absurd h (by decide)
    · rw [if_neg q2] at h
      by_cases q3 : σ 92 x.toNat = 2 ∧ σ 92 y.toNat = 2 ∧ σ 93 x.toNat = σ 93 y.toNat
      · rw [if_pos q3] at h
        by_cases q4 : ((0 ≤ i ∧ 0 ≤ n) ∧ i + n ≤ σ 94 x.toNat) ∧ ((0 ≤ j ∧ 0 ≤ n) ∧ j + n ≤ σ 94 y.toNat)
        · exact ⟨q1, q3, q4⟩
        · rw [if_neg q4] at h; exact absurd h (by decide)
      · rw [if_neg q3] at h; exact absurd h (by decide)
  · rw [if_neg q1] at h; exact absurd h (by decide)
theorem eq_copy {x i y j n : Int} (hi : R3 i) (hj : R3 j) (hn : R3 n) : EQ iX6_copy iX7_copy [aI x, aI i, aI y, aI j, aI n] := by
  intro σ T P h
  have l95 := l92.2.2.2.1
  have hs : ∀ d, d < 8 → σ 92 d = 2 → 0 ≤ σ 94 d ∧ σ 94 d ≤ 100 := fun d hd h2 => by
    obtain ⟨n, en, hn, -⟩ := SH_rw (h.2.2.2 d hd) h2
    omega
  have dead : ∀ v : Int, v ≠ 0 → copF σ x i y j n = v → wpCall 20 iX7_copy [aR 85, aI x, aI i, aI y, aI j, aI n] σ (fun r' σ2 => v = r' ∧ ∃ T' P', Inv σ2 T' P') := fun v hv e => y_copy hs hi hj hn (fun _ => ⟨e.symm, T, P, h⟩) (fun z => absurd (e.symm.trans z) hv)
  refine bX6_copy (x_isShelf (fun g => br_f2 (by decide) (x_isShelf (fun g2 => br_f2 (by decide) ?_) (fun g2 => br_t2 rfl (dead _ (by decide) ?_)))) (fun g => br_t2 rfl (dead _ (by decide) ?_)))
  · have gg := And.intro g g2
    obtain ⟨d, rfl, hd⟩ := in8 g
    obtain ⟨e, rfl, he⟩ := in8 g2
    obtain ⟨s1, s2, s3⟩ := shf_d hd
    obtain ⟨t1, t2, t3⟩ := shf_d he
    have ec : copF σ (d : Int) i (e : Int) j n = if σ 92 d = 0 ∨ σ 92 e = 0 then -11 else if σ 92 d = 2 ∧ σ 92 e = 2 ∧ σ 93 d = σ 93 e then (if ((0 ≤ i ∧ 0 ≤ n) ∧ i + n ≤ σ 94 d) ∧ ((0 ≤ j ∧ 0 ≤ n) ∧ j + n ≤ σ 94 e) then 0 else -13) else -12 := by
      unfold copF; rw [if_pos gg]; rfl
    rw [Int.toNat_natCast, Int.toNat_natCast, SH_0 (h.2.2.2 d hd), SH_0 (h.2.2.2 e he)]
    refine ⟨by omega, by omega, by omega, by omega, s1, fun q => dead _ (by decide) ?_, fun q => ⟨t1, fun q2 => dead _ (by decide) ?_, fun q2 => ⟨s1, fun q3 => ⟨t1, fun q4 => ⟨s1, t1, ?_⟩, fun q4 => dead _ (by decide) ?_⟩, fun q3 => dead _ (by decide) ?_⟩⟩⟩
    · rw [ec, if_pos (Or.inl q)]
    · rw [ec, if_pos (Or.inr q2)]
    · obtain ⟨nd, end1, hnd, ed2, ed3, rd3, fd, fbd⟩ := SH_rw (h.2.2.2 d hd) q3
      obtain ⟨ne, ene1, hne, ee2, ee3, re3, fe, fbe⟩ := SH_rw (h.2.2.2 e he) q4
      rw [ed2, ee2]
      refine ⟨fun q5 => ⟨s1, x_hasPlaces hd ed3 hnd hi (fun z1 => br_f2 (by decide) ⟨t1, x_hasPlaces he ee3 hne hj (fun z2 => br_f2 (by decide) ?_) (fun z2 => br_t2 rfl (dead _ (by decide) ?_))⟩) (fun z1 => br_t2 rfl (dead _ (by decide) ?_))⟩, fun q5 => dead _ (by decide) ?_⟩
      · obtain ⟨i0, rfl⟩ : ∃ i0 : Nat, i = i0 := ⟨i.toNat, by omega⟩
        obtain ⟨j0, rfl⟩ : ∃ j0 : Nat, j = j0 := ⟨j.toNat, by omega⟩
        obtain ⟨n0, rfl⟩ : ∃ n0 : Nat, n = n0 := ⟨n.toNat, by omega⟩
        rw [s3, t3]
        refine ⟨s1, t1, by omega, by omega, by omega, by omega, by omega, by omega, by omega, ?_⟩
        have hc0 : copF σ (d : Int) (i0 : Int) (e : Int) (j0 : Int) (n0 : Int) = 0 := by
          rw [ec, if_neg (by omega), if_pos ⟨q3, q4, q5⟩, if_pos (by omega)]
        obtain ⟨σ1, hσ1⟩ : ∃ σ1, σ1 = cpy σ (61 + 3 * d + 2) (i0 : Int) (61 + 3 * e + 2) (j0 : Int) (n0 : Int) := ⟨_, rfl⟩
        rw [← hσ1]
        have o1 : ∀ a, a ≠ 61 + 3 * e + 2 → ∀ k, σ1 a k = σ a k := fun a ha k => by rw [hσ1]; exact cpy_ne ha
        have v1 : ∀ k, σ1 (61 + 3 * e + 2) k = if j0 ≤ k ∧ k < j0 + n0 then σ (61 + 3 * d + 2) (i0 + (k - j0)) else σ (61 + 3 * e + 2) k := fun k => by
          rw [hσ1]
          unfold cpy
          by_cases z : j0 ≤ k ∧ k < j0 + n0
          · rw [if_pos z, if_pos ⟨rfl, by omega, by omega⟩]; rfl
          · rw [if_neg z, if_neg (fun y => z ⟨by omega, by omega⟩)]
        have hc1 : copF σ1 (d : Int) (i0 : Int) (e : Int) (j0 : Int) (n0 : Int) = 0 := by
          rw [← hc0]; unfold copF
          simp only [o1 92 (by omega), o1 93 (by omega), o1 94 (by omega)]
        refine y_copy (fun d' hd' z => ?_) hi hj hn (fun z => absurd hc1 z) (fun _ => m_copy122 hd he (by omega) (by omega) (fun σ2 o2 c2 k2 => ⟨rfl, T, P, h.sh he ⟨fun a ha k => ?_, fun a a1 a2 a3 k hk => ?_, fun k hk => ?_⟩ ?_⟩))
        · rw [o1 92 (by omega)] at z
          rw [o1 94 (by omega)]; exact hs d' hd' z
        · rw [o2 a (by omega), o1 a (by omega)]
        · rw [o2 a a3, o1 a (by omega)]
        · rw [k2 k (by omega), o1 95 (by omega)]
        · have b95 : ∀ k, k < 100 → σ2 95 (100 * e + k) = if j0 ≤ k ∧ k < j0 + n0 then σ 95 (100 * d + (i0 + (k - j0))) else σ 95 (100 * e + k) := fun k hk => by
            by_cases z : j0 ≤ k ∧ k < j0 + n0
            · have := c2 (k - j0) (by omega)
              rw [show 100 * e + j0 + (k - j0) = 100 * e + k by omega, o1 95 (by omega), show 100 * d + i0 + (k - j0) = 100 * d + (i0 + (k - j0)) by omega] at this
              rw [if_pos z]; exact this
            · rw [if_neg z, k2 _ (by omega), o1 95 (by omega)]
          refine ⟨?_, Or.inr (Or.inr ⟨?_, ⟨?_, ?_⟩, ?_, ?_, fun k hk => ?_, fun z k hk => ?_⟩)⟩
          · rw [o2 _ (by omega), o2 92 (by omega), o1 _ (by omega), o1 92 (by omega)]; exact SH_0 (h.2.2.2 e he)
          · rw [o2 92 (by omega), o1 92 (by omega)]; exact q4
          · rw [o2 _ (by omega), o2 93 (by omega), o1 _ (by omega), o1 93 (by omega)]; exact ee2
          · rw [o2 _ (by omega), o2 94 (by omega), o1 _ (by omega), o1 94 (by omega), ene1]; exact ee3
          · rw [o2 93 (by omega), o1 93 (by omega)]; exact re3
          · rw [o2 94 (by omega), o1 94 (by omega), ene1]; omega
          · rw [o2 _ (by omega), v1, b95 k hk]
            by_cases z : j0 ≤ k ∧ k < j0 + n0
            · rw [if_pos z, if_pos z]; exact fd _ (by omega)
            · rw [if_neg z, if_neg z]; exact fe k hk
          · rw [o2 93 (by omega), o1 93 (by omega)] at z
            rw [b95 k hk]
            by_cases y : j0 ≤ k ∧ k < j0 + n0
            · rw [if_pos y]; exact fbd (q5.trans z) _ (by omega)
            · rw [if_neg y]; exact fbe z k hk
      · rw [ec, if_neg (by omega), if_pos ⟨q3, q4, q5⟩, if_neg (by omega)]
      · rw [ec, if_neg (by omega), if_pos ⟨q3, q4, q5⟩, if_neg (by omega)]
      · rw [ec, if_neg (by omega), if_neg (fun z => q5 z.2.2)]
    · rw [ec, if_neg (by omega), if_neg (fun z => q4 z.2.1)]
    · rw [ec, if_neg (by omega), if_neg (fun z => q3 z.1)]
  · unfold copF; rw [if_neg (fun z => g2 z.2)]
  · unfold copF; rw [if_neg (fun z => g z.1)]
