/-! the model's element -/
theorem y_element {x y : Int} {σ T P : Sg} {K : Kt} (h : Inv σ T P) (hk : K (if elK σ x y = 0 then elV σ x y else 0) (up σ 85 15 (elK σ x y))) : wpCall 20 iX7_element [aR 85, aI x, aI y] σ K := by
  have hl := l92
  refine bX7_element (y_isShelf (d := 17) (fun g => br_f2 (by decide) ?_) (fun g => br_t2 rfl ?_))
  · obtain ⟨d, rfl, hd⟩ := in8 g
    have hE0 : elK σ (d : Nat) y = if σ 92 d = 2 ∧ 0 ≤ y ∧ y < σ 94 d then 0 else 2 := by
      unfold elK; rw [if_pos g, Int.toNat_natCast]
    rw [Int.toNat_natCast]
    refine ⟨by omega, by omega, fun q2 => ?_, fun q2 => ?_⟩
    · obtain ⟨n, e94, hn, -⟩ := SH_rw (h.2.2.2 d hd) q2
      rw [e94, wr_id (show R32 ((n : Int) - 1) from ⟨by omega, by omega⟩)]
      refine ⟨by omega, by omega, m_isIn (fun g2 => br_f2 (by decide) ?_) (fun g2 => br_t2 rfl ?_)⟩
      · have e0 : elK σ (d : Nat) y = 0 := by rw [hE0, if_pos ⟨q2, g2.1, by omega⟩]
        rw [e0, if_pos rfl] at hk
        rw [up_self]
        rw [wr_id (show R32 (100 * (d : Int)) from ⟨by omega, by omega⟩), wr_id (show R32 (100 * (d : Int) + y) from ⟨by omega, by omega⟩)]
        refine br_t2 rfl ⟨by omega, by omega, ?_⟩
        rw [up_ne (by decide), show (100 * (d : Int) + y).toNat = 100 * d + y.toNat by omega]
        unfold elV at hk
        rw [Int.toNat_natCast] at hk
        exact hk
      · have e2 : elK σ (d : Nat) y = 2 := by rw [hE0, if_neg (fun z => g2 ⟨z.2.1, by omega⟩)]
        rw [e2, if_neg (by decide)] at hk
        rw [up_self]
        exact br_f2 (by decide) hk
    · have e2 : elK σ (d : Nat) y = 2 := by rw [hE0, if_neg (fun z => q2 z.1)]
      rw [e2, if_neg (by decide)] at hk
      rw [up_self]
      exact br_f2 (by decide) hk
  · have e1 : elK σ x y = 1 := by unfold elK; rw [if_neg g]
    rw [e1, if_neg (by decide)] at hk
    rw [up_self]
    exact br_f2 (by decide) hk
theorem Inv_thrown {σ T P : Sg} {v : Int} (h : Inv σ T P) : Inv (up σ 85 15 v) T P :=
  h.m ((Ex.rf).up (by decide)) (h.1.ex (l := [85]) ((Ex.rf).up (by decide)) (by decide)) (up_nk (by decide))
theorem y_thrown {σ : Sg} {K : Kt} (hk : K (σ 85 15) σ) : wpCall 20 iX7_thrown [aR 85] σ K := bX7_thrown hk
