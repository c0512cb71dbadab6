/-! newly, byLaw, count -/
theorem up_eq {σ : Sg} {a k : Nat} {v : Int} (h : σ a k = v) : up σ a k v = σ := by subst h; exact up_same
theorem x_isEach {d : Nat} {x : Int} {σ : Sg} {K : Kt} (h1 : 1 ≤ x ∧ x ≤ 3 → K 1 σ) (h0 : ¬ (1 ≤ x ∧ x ≤ 3) → K 0 σ) : wpCall (d + 1) iX6_isEach [aI x] σ K :=
  bX6_isEach ⟨fun q => ⟨by decide, h0 (by omega)⟩, fun q => ⟨fun q2 => ⟨by decide, h0 (by omega)⟩, fun q2 => ⟨by decide, h1 (by omega)⟩⟩⟩
theorem x_isNear {d : Nat} {x : Int} {σ : Sg} {K : Kt} (h1 : 0 ≤ x ∧ x ≤ 9 → K 1 σ) (h0 : ¬ (0 ≤ x ∧ x ≤ 9) → K 0 σ) : wpCall (d + 1) iX6_isNear [aI x] σ K :=
  bX6_isNear ⟨fun q => ⟨by decide, h0 (by omega)⟩, fun q => ⟨fun q2 => ⟨by decide, h0 (by omega)⟩, fun q2 => ⟨by decide, h1 (by omega)⟩⟩⟩
theorem CX_bec {σ σ' : Sg} {o t : Nat} (hb : Bec σ o σ' t) (hx : CX σ o) : CX σ' t := fun a ha => (hb.2.2.1 (6 * a) (by omega)).trans (hx a ha)
theorem eq_newly {x : Int} : EQ iX6_newly iX7_newly [aI x] := by
  refine EQq (by decide) (fun T => if 1 ≤ x ∧ x ≤ 4 then (if T 0 0 < 5 then wr ((fsB (tStr T x) gn1).1 - (fsB T gn1).1) else -2) else -1) (fun σ T P K h hk => ?_) (fun σ T P K h hk => ?_)
  · obtain ⟨m, hw, hv, hx⟩ := h.p
    have no : ¬ (1 ≤ x ∧ x ≤ 4) → K (-1) σ := fun q => by
      have := hk σ Ex.rf
      rw [if_neg q] at this; exact this
    refine bX6_newly ⟨fun q => no (by omega), fun q => ⟨fun q2 => no (by omega), fun q2 => ⟨tw0, s_hasRoomForStreet hv (fun g => br_f2 (by decide) ?_) (fun g => br_t2 rfl ?_)⟩⟩⟩
    · refine ⟨tw18, s_become tw18 tw0 (by decide) (fun σ1 e1 hb => ⟨tw18, s_addStreet (hb.tv tw18 hv hw) hw (CX_bec hb hx) g (fun σ2 e2 v2 x2 => ?_)⟩)⟩
      have e2' : Ex LX σ σ2 := e1.tr (l := LX) e2 (by simp) (by simp)
      refine s_largest (d := 6) v2 (WF_tStr hw g (by omega)) (fun σ3 e3 c3 => ?_)
      have e3' : Ex LX σ σ3 := e2'.tr (LX_mo18 e3) (fun _ h => h) (fun _ h => h)
      refine s_largest (d := 6) (h.x e3').p.2.2.1 hw (fun σ4 e4 c4 => ?_)
      have := hk σ4 (e3'.tr (LX_mo e4) (fun _ h => h) (fun _ h => h))
      rw [if_pos (by omega), if_pos g] at this; exact this
    · have := hk σ Ex.rf
      rw [if_pos (by omega), if_neg g] at this; exact this
  · obtain ⟨m, hw, hv, hx⟩ := h.p
    have h5 := hw.1.1
    have h8 := hw.1.2.1
    have hnS : ((nS T : Nat) : Int) = T 0 0 := Int.toNat_of_nonneg h5.1
    have hnP : ((nP T : Nat) : Int) = T 0 1 := Int.toNat_of_nonneg h8.1
    have l86 : LEN 86 = 107 := rfl
    have l89 : LEN 89 = 107 := rfl
    have f0 : σ 86 0 = T 0 0 := m.1.1.1
    refine bX7_newly (m_isIn (fun g => br_f2 (by decide) ⟨by omega, by omega, ?_⟩) (fun g => br_t2 rfl (by
      have := hk σ Ex.rf m
      rw [if_neg g] at this; exact this)))
    rw [f0]
    refine ⟨fun q => ?_, fun q => m_mostOf (d := 3) m hw (fun σ1 e1 hr1 m1 => m_copies (d := 18) l86 l89 (by omega) (fun σ2 e2 hi2 => ?_))⟩
    · have := hk σ Ex.rf m
      rw [if_pos g, if_neg (by omega)] at this; exact this
    have hlt : T 0 0 < 5 := by omega
    have m2 := m1.ex e2 (by simp)
    have e2' : Ex LM σ σ2 := (LM_fi e1).tr e2 (fun _ h => h) (by simp)
    obtain ⟨n, hn⟩ : ∃ n : Nat, nS T = n := ⟨_, rfl⟩
    have g0 : σ2 86 0 = ((n : Nat) : Int) := by rw [m2.1.1.1]; omega
    rw [g0, ixh (by omega), Int.toNat_natCast]
    have xx1 := m2.2.1
    have xx2 := m2.2.2
    have fin : wpL (wpCall 19) mX7_newly K 127 [aR 85, aU, aI (fsB T gn1).1, aI (n : Nat), aI 0] [] (up σ2 86 (5 + n) x) := by
      refine dwn (W := fun p => wpL (wpCall 19) mX7_newly K 127 [aR 85, aU, aI (fsB T gn1).1, aI (n : Nat), aI (p : Nat)] [] (up σ2 86 (5 + n) x)) (nP T) ?_ (fun p hp ih => ?_) 0 (Nat.zero_le _)
      · have f1 : up σ2 86 (5 + n) x 86 1 = T 0 1 := by rw [up_nk (by omega)]; exact m2.1.1.2.1
        refine bX7_newly_127 ⟨by omega, by omega, fun z => by omega, fun _ => ⟨by omega, by omega, by omega, by omega, ?_⟩⟩
        rw [up_nk (show 0 ≠ 5 + n by omega), g0, wr1 (by omega)]
        have m3 := MV_tStr (h := x) m2.1 m2.2 hw hlt
        rw [hn, show T 0 0 + 1 = ((n + 1 : Nat) : Int) by omega] at m3
        have m3 : MR (up (up σ2 86 (5 + n) x) 86 0 ((n + 1 : Nat) : Int)) (tStr T x) := m3
        have e3' : Ex LM σ (up (up σ2 86 (5 + n) x) 86 0 ((n + 1 : Nat) : Int)) := (e2'.up (by simp)).up (by simp)
        refine m_mostOf (d := 3) m3 (WF_tStr hw hlt g) (fun σ4 e4 hr4 m4 => m_back (d := 18) (σ0 := σ1) l89 (by omega) (fun j hj => ?_) m1 hw (fun σ5 e5 hi5 m5 => ?_))
        · rw [e4 89 (by simp), up_ne (by omega), up_ne (by omega)]; exact hi2 j hj
        · have := hk σ5 ((e3'.tr (LM_fi e4) (fun _ h => h) (fun _ h => h)).tr e5 (fun _ h => h) (by simp)) m5
          rw [if_pos g, if_pos hlt] at this; exact this
      · have f1 : up σ2 86 (5 + n) x 86 1 = T 0 1 := by rw [up_nk (by omega)]; exact m2.1.1.2.1
        refine bX7_newly_127 ⟨by omega, by omega, fun _ => bX7_puts ?_, fun z => by omega⟩
        rw [wr4 (by omega), ixg (by omega) (by omega), wr1 (by omega), Int.toNat_natCast]
        rw [up_eq (σ := up σ2 86 (5 + n) x) (by rw [up_nk (by omega), show 35 + 9 * p + (4 + n) = 39 + 9 * p + n by omega]; exact xx2 p n (by omega) (by omega) (by omega))]
        exact ⟨by omega, by omega, ih⟩
    refine ⟨by omega, by omega, by omega, by omega, dwn (W := fun o => wpL (wpCall 19) mX7_newly K 62 [aR 85, aU, aI (fsB T gn1).1, aI (n : Nat), aI (o : Nat)] [] (up σ2 86 (5 + n) x)) 5 ?_ (fun o ho ih => ?_) 0 (Nat.zero_le _)⟩
    · exact bX7_newly_62 ⟨fun z => by omega, fun _ => fin⟩
    · refine bX7_newly_62 ⟨fun _ => ?_, fun z => by omega⟩
      rw [ixw (by omega) (by omega), ixw (by omega) (by omega), wr1 (by omega), Int.toNat_natCast, Int.toNat_natCast]
      have v1 : σ2 86 (10 + 5 * n + o) = if n = o then 0 else 5 := xx1 n o (by omega) ho (Or.inl (by omega))
      have v2 : σ2 86 (10 + 5 * o + n) = if o = n then 0 else 5 := xx1 o n ho (by omega) (Or.inr (by omega))
      by_cases z : o = n
      · rw [if_pos z.symm] at v1
        rw [if_pos z] at v2
        have w1 : up (up σ2 86 (5 + n) x) 86 (10 + 5 * n + o) 0 = up σ2 86 (5 + n) x := up_eq (by rw [up_nk (by omega)]; exact v1)
        have w2 : up (up σ2 86 (5 + n) x) 86 (10 + 5 * o + n) 0 = up σ2 86 (5 + n) x := up_eq (by rw [up_nk (by omega)]; exact v2)
        refine ⟨fun _ => ⟨by omega, by omega, fun _ => ⟨by omega, by omega, ?_⟩, fun y => absurd (by omega) y⟩, fun y => absurd (by omega) y⟩
        rw [w1, w2]; exact ih
      · rw [if_neg (fun y => z y.symm)] at v1
        rw [if_neg z] at v2
        have w1 : up (up σ2 86 (5 + n) x) 86 (10 + 5 * n + o) 5 = up σ2 86 (5 + n) x := up_eq (by rw [up_nk (by omega)]; exact v1)
        have w2 : up (up σ2 86 (5 + n) x) 86 (10 + 5 * o + n) 5 = up σ2 86 (5 + n) x := up_eq (by rw [up_nk (by omega)]; exact v2)
        refine ⟨fun y => absurd (by omega) z, fun _ => ⟨by omega, by omega, fun y => absurd (by omega) z, fun _ => ⟨by omega, by omega, ?_⟩⟩⟩
        rw [w1, w2]; exact ih
theorem eq_byLaw {x y : Int} : EQ iX6_byLaw iX7_byLaw [aI x, aI y] := by
  refine EQq (by decide) (fun T => if (1 ≤ x ∧ x ≤ 3) ∧ (0 ≤ y ∧ y ≤ 9) then (fsB (tLaw T x y (T 0 4)) gn1).1 else -1) (fun σ T P K h hk => ?_) (fun σ T P K h hk => ?_)
  · obtain ⟨m, hw, hv, hx⟩ := h.p
    have no : ¬ ((1 ≤ x ∧ x ≤ 3) ∧ (0 ≤ y ∧ y ≤ 9)) → K (-1) σ := fun q => by
      have := hk σ Ex.rf
      rw [if_neg q] at this; exact this
    refine bX6_byLaw (x_isEach (fun g => br_f2 (by decide) (x_isNear (fun g2 => br_f2 (by decide) ⟨tw18, s_become tw18 tw0 (by decide) (fun σ1 e1 hb => ⟨tw18, tw18, ?_⟩)⟩) (fun g2 => br_t2 rfl (no (fun z => g2 z.2))))) (fun g => br_t2 rfl (no (fun z => g z.1))))
    have v1 := hb.tv tw18 hv hw
    have v2 : TV (up (up σ1 18 9 x) 18 10 y) 18 (tLaw T x y (T 0 4)) := by
      have := TV_tLaw (a := x) (b := y) (c := T 0 4) v1
      rw [up_eq (σ := up (up σ1 18 9 x) 18 10 y) (by rw [up_nk (by omega), up_nk (by omega)]; exact v1.2.1.2.2.2.2)] at this
      exact this
    have e2' : Ex LX σ (up (up σ1 18 9 x) 18 10 y) := ((e1.mono (l := LX) (by simp)).up (by simp)).up (by simp)
    refine s_largest (d := 6) v2 (WF_tLaw hw g g2 hw.1.2.2.2.2) (fun σ3 e3 c3 => ?_)
    have := hk σ3 (e2'.tr (LX_mo18 e3) (fun _ h => h) (fun _ h => h))
    rw [if_pos ⟨g, g2⟩] at this; exact this
  · obtain ⟨m, hw, hv, hx⟩ := h.p
    have l86 : LEN 86 = 107 := rfl
    have no : ¬ ((1 ≤ x ∧ x ≤ 3) ∧ (0 ≤ y ∧ y ≤ 9)) → K (-1) σ := fun q => by
      have := hk σ Ex.rf m
      rw [if_neg q] at this; exact this
    refine bX7_byLaw (m_isIn (fun g => br_f2 (by decide) (m_isIn (fun g2 => br_f2 (by decide) ⟨by omega, by omega, by omega, by omega, by omega, by omega, by omega, by omega, ?_⟩) (fun g2 => br_t2 rfl (no (fun z => g2 z.2))))) (fun g => br_t2 rfl (no (fun z => g z.1))))
    have m2 : MR (up (up σ 86 2 x) 86 3 y) (tLaw T x y (T 0 4)) := by
      have := MV_tLaw (x := x) (y := y) (z := T 0 4) m.1 m.2 hw
      rw [up_eq (σ := up (up σ 86 2 x) 86 3 y) (by rw [up_nk (by omega), up_nk (by omega)]; exact m.1.1.2.2.2.2)] at this
      exact this
    refine m_mostOf (d := 3) m2 (WF_tLaw hw g g2 hw.1.2.2.2.2) (fun σ3 e3 hr3 m3 => ⟨by omega, by omega, by omega, by omega, ?_⟩)
    have e3' : Ex LM σ (up (up σ3 86 2 (σ 86 2)) 86 3 (σ 86 3)) := (((Ex.rf.up (by simp)).up (a := 86) (by simp)).tr (l := LM) (l1 := LM) (LM_fi e3) (fun _ h => h) (fun _ h => h)).up (by simp) |>.up (by simp)
    have hrow : ∀ k, k < 107 → up (up σ3 86 2 (σ 86 2)) 86 3 (σ 86 3) 86 k = σ 86 k := fun k hk => by
      by_cases z3 : k = 3
      · rw [z3, up_self]
      · rw [up_nk z3]
        by_cases z2 : k = 2
        · rw [z2, up_self]
        · rw [up_nk z2, hr3 k hk, up_nk z3, up_nk z2]
    have := hk _ e3' ⟨m.1.cp hw hrow, m.2.cp hw hrow⟩
    rw [if_pos ⟨g, g2⟩] at this; exact this
theorem cnt_not {f : Nat → Bool} : ∀ n : Nat, cnt f n + cnt (fun p => !f p) n = n
  | 0 => rfl
  | n + 1 => by
    have := cnt_not (f := f) n
    cases q : f n
    · rw [cnt_f q, cnt_t (f := fun p => !f p) (by simp [q])]; push_cast; omega
    · rw [cnt_t q, cnt_f (f := fun p => !f p) (by simp [q])]; push_cast; omega
def countF (T : Sg) (x : Int) : Int := if x = 0 then T 0 0 else if x = 1 then T 0 1 else if x = 2 then sumN (T 1) (nS T) else if x = 3 then cnt (fun p => !decide (T 7 p = 9)) (nP T) else if x = 4 then cnt (fun p => !decide (T 5 p = -4)) (nP T) else if x = 5 then cnt (fun p => !decide (T 4 p = 0)) (nP T) else -1
theorem m_count80 {x : Int} {σ T : Sg} {K : Kt} (m : MR σ T) (hw : WF T) (hx : x = 3 ∨ x = 4 ∨ x = 5) (hk : K (countF T x) σ) : wpL (wpCall 19) mX7_count K 80 [aR 85, aI x, aI 0, aI 0] [] σ := by
  have h8 := hw.1.2.1
  have hnP : ((nP T : Nat) : Int) = T 0 1 := Int.toNat_of_nonneg h8.1
  have l86 : LEN 86 = 107 := rfl
  have f1 : σ 86 1 = T 0 1 := m.1.1.2.1
  obtain ⟨f, hf⟩ : ∃ f : Nat → Bool, f = fun p => if x = 3 then !decide (T 7 p = 9) else if x = 4 then !decide (T 5 p = -4) else !decide (T 4 p = 0) := ⟨_, rfl⟩
  have hk : K (cnt f (nP T)) σ := kq hk (by
    rw [hf]
    unfold countF
    rcases hx with rfl | rfl | rfl
    · rfl
    · rfl
    · rfl)
  refine dwn (W := fun p => wpL (wpCall 19) mX7_count K 80 [aR 85, aI x, aI (cnt f p), aI (p : Nat)] [] σ) (nP T) ?_ (fun p hp ih => ?_) 0 (Nat.zero_le _)
  · exact bX7_count_80 ⟨by omega, by omega, fun z => by omega, fun _ => hk⟩
  · have r := cnt_r f p
    have w7 := home_ok hw (p := p) (by omega)
    have w5 := (hw.2.2.2 p (by omega)).2.2.1
    have hlp : lv (T 7 p) < 0 ↔ T 7 p = 9 := by unfold lv; split <;> omega
    have fp : f p = if x = 3 then !decide (T 7 p = 9) else if x = 4 then !decide (T 5 p = -4) else !decide (T 4 p = 0) := by rw [hf]
    have t1 : f p = true → wpL (wpCall 19) mX7_count K 80 [aR 85, aI x, aI (wr (cnt f p + 1)), aI (wr ((p : Int) + 1))] [] σ := fun q => wq ih (by rw [wr1 (by omega), cnt_t q, wr_id ⟨by omega, by omega⟩])
    have t0 : f p = false → wpL (wpCall 19) mX7_count K 80 [aR 85, aI x, aI (wr (cnt f p + 0)), aI (wr ((p : Int) + 1))] [] σ := fun q => wq ih (by rw [wr1 (by omega), cnt_f q, wr_id ⟨by omega, by omega⟩, Int.add_zero])
    refine bX7_count_80 ⟨by omega, by omega, fun _ => ⟨fun q => m_at m.1 (by omega) (by omega) ⟨fun q2 => t0 ?_, fun q2 => t1 ?_⟩, fun q => ⟨fun q2 => m_ti m.1 (by omega) (by omega) ⟨fun q3 => t0 ?_, fun q3 => t1 ?_⟩, fun q2 => m_hd m.1 (by omega) (by omega) ⟨fun q3 => t0 ?_, fun q3 => t1 ?_⟩⟩⟩, fun z => by omega⟩
    · rw [fp, if_pos q, decide_eq_true (hlp.1 q2)]; rfl
    · rw [fp, if_pos q, decide_eq_false (fun z => q2 (hlp.2 z))]; rfl
    · rw [fp, if_neg q, if_pos q2, decide_eq_true (by omega)]; rfl
    · rw [fp, if_neg q, if_pos q2, decide_eq_false (by omega)]; rfl
    · rw [fp, if_neg q, if_neg q2, decide_eq_true q3]; rfl
    · rw [fp, if_neg q, if_neg q2, decide_eq_false q3]; rfl
theorem eq_count {x : Int} : EQ iX6_count iX7_count [aI x] := by
  refine EQq (by decide) (fun T => countF T x) (fun σ T P K h hk => ?_) (fun σ T P K h hk => ?_)
  · obtain ⟨m, hw, hv, hx⟩ := h.p
    have h8 := hw.1.2.1
    have hnP : ((nP T : Nat) : Int) = T 0 1 := Int.toNat_of_nonneg h8.1
    have f0 : σ 0 0 = T 0 0 := hv.2.1.1
    have f3 : σ 0 3 = T 0 1 := hv.2.1.2.1
    have hk := hk σ Ex.rf
    refine bX6_count ⟨fun q => ⟨tw0, ?_⟩, fun q => ⟨tw0, ?_⟩, fun q => ⟨tw0, s_allHouses hv hw ?_⟩, fun q => ⟨tw0, tw0, s_crowdIn hv hw ?_⟩, fun q => ⟨tw0, s_tiedPeople hv hw ?_⟩, fun q => ⟨tw0, s_hidingPeople hv hw ?_⟩, fun q => ?_⟩
    · subst q; rw [f0]; exact hk
    · subst q; rw [f3]; exact hk
    · subst q; exact hk
    · subst q
      have c := cnt_not (f := fun p => decide (T 7 p = 9)) (nP T)
      have r := cnt_r (fun p => decide (T 7 p = 9)) (nP T)
      refine kq hk ?_
      show _ = cnt (fun p => !decide (T 7 p = 9)) (nP T)
      rw [f3]
      unfold crowd
      rw [wr_id ⟨by omega, by omega⟩]
      omega
    · subst q; exact hk
    · subst q; exact hk
    · refine kq hk ?_
      unfold countF
      rw [if_neg (by omega), if_neg (by omega), if_neg (by omega), if_neg (by omega), if_neg (by omega), if_neg (by omega)]
  · obtain ⟨m, hw, hv, hx⟩ := h.p
    have h5 := hw.1.1
    have hnS : ((nS T : Nat) : Int) = T 0 0 := Int.toNat_of_nonneg h5.1
    have l86 : LEN 86 = 107 := rfl
    have f0 : σ 86 0 = T 0 0 := m.1.1.1
    have f1 : σ 86 1 = T 0 1 := m.1.1.2.1
    have hk := hk σ Ex.rf m
    refine bX7_count ⟨fun q => ⟨by omega, by omega, ?_⟩, fun q => ⟨by omega, by omega, ?_⟩, fun q => ?_, fun q => m_count80 m hw (by omega) hk, fun q => m_count80 m hw (by omega) hk, fun q => m_count80 m hw (by omega) hk, fun q => ?_⟩
    · subst q
      show K (σ 86 0) σ
      rw [f0]; exact hk
    · subst q
      show K (σ 86 1) σ
      rw [f1]; exact hk
    · subst q
      have hk : K (sumN (T 1) (nS T)) σ := hk
      refine dwn (W := fun s => wpL (wpCall 19) mX7_count K 49 [aR 85, aU, aI (sumN (T 1) s), aI (s : Nat)] [] σ) (nS T) ?_ (fun s hs ih => ?_) 0 (Nat.zero_le _)
      · exact bX7_count_49 ⟨by omega, by omega, fun z => by omega, fun _ => hk⟩
      · have r := sumN_r (g := T 1) (b := 4) (by omega) s (fun q hq => by have := hw.2.1 q (by omega); omega)
        have r2 := hw.2.1 s (by omega)
        refine bX7_count_49 ⟨by omega, by omega, fun _ => ?_, fun z => by omega⟩
        rw [ixh (by omega), Int.toNat_natCast, m.1.2.1 s (by omega), wr1 (by omega), wr_id (x := sumN (T 1) s + T 1 s) ⟨by omega, by omega⟩]
        exact ⟨by omega, by omega, ih⟩
    · refine kq hk ?_
      unfold countF
      rw [if_neg (by omega), if_neg (by omega), if_neg (by omega), if_neg (by omega), if_neg (by omega), if_neg (by omega)]
