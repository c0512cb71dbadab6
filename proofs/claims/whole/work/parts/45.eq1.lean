/-! THE QUERIES -/
theorem Inv.p {σ T P : Sg} (h : Inv σ T P) : MR σ T ∧ WF T ∧ TV σ 0 T ∧ CX σ 0 := ⟨h.1, h.2.1.1, h.2.1.2.1, h.2.1.2.2⟩
theorem tw0 : TW 0 := rfl
theorem tw18 : TW 18 := rfl
theorem x_lv {d : Nat} {x : Int} {σ : Sg} {K : Kt} (hk : K (lv x) σ) : wpCall (d + 1) iX6_streetOrNoSuch [aI x] σ K := by
  unfold lv at hk
  exact bX6_streetOrNoSuch ⟨fun q => by rw [if_pos q] at hk; exact hk, fun q => by rw [if_neg q] at hk; exact hk⟩
theorem x_oneIf {d : Nat} {b : Bool} {σ : Sg} {K : Kt} (hk : K (b2i b) σ) : wpCall (d + 1) iX6_oneIf [aI (b2i b)] σ K :=
  bX6_oneIf ⟨fun q => by cases b; exact hk; exact absurd q (by decide), fun q => by cases b; exact absurd rfl q; exact hk⟩
theorem Ex.x8 {σ σ' : Sg} (h : Ex [0 + 8] σ σ') : Ex LX σ σ' := h.mono (by simp)
theorem eq_way {x y : Int} : EQ iX6_way iX7_way [aI x, aI y] := by
  refine EQq (by decide) (fun T => if inS T x ∧ inS T y then T 2 (5 * x.toNat + y.toNat) else -1) (fun σ T P K h hk => ?_) (fun σ T P K h hk => ?_)
  · obtain ⟨m, hw, hv, hx⟩ := h.p
    have hk := hk σ Ex.rf
    refine bX6_way ⟨hv.1, x_hasS h (fun g => br_f2 (by decide) ⟨hv.1, x_hasS h (fun g2 => br_f2 (by decide) ⟨hv.1, ?_⟩) (fun g2 => br_t2 rfl ?_)⟩) (fun g => br_t2 rfl ?_)⟩
    · rw [if_pos ⟨g, g2⟩] at hk
      obtain ⟨a, rfl, ha⟩ := inS_n g
      obtain ⟨b, rfl, hb⟩ := inS_n g2
      exact s_minutes hv hw ha hb hk
    · rw [if_neg (fun z => g2 z.2)] at hk; exact hk
    · rw [if_neg (fun z => g z.1)] at hk; exact hk
  · obtain ⟨m, hw, hv, hx⟩ := h.p
    have hk := hk σ Ex.rf m
    refine bX7_way (y_isS h (fun g => br_f2 (by decide) (y_isS h (fun g2 => br_f2 (by decide) ?_) (fun g2 => br_t2 rfl ?_))) (fun g => br_t2 rfl ?_))
    · rw [if_pos ⟨g, g2⟩] at hk
      obtain ⟨a, rfl, ha⟩ := inS_n g
      obtain ⟨b, rfl, hb⟩ := inS_n g2
      exact m_wayOf m.1 hw ha hb hk
    · rw [if_neg (fun z => g2 z.2)] at hk; exact hk
    · rw [if_neg (fun z => g z.1)] at hk; exact hk
def personF (T : Sg) (x w : Int) : Int := if inP T x then (if w = 0 then T 3 x.toNat else if w = 1 then T 4 x.toNat else if w = 2 then T 5 x.toNat else if w = 3 then lv (T 7 x.toNat) else if w = 4 then wNow T x.toNat else -1) else -1
theorem eq_person {x w : Int} : EQ iX6_person iX7_person [aI x, aI w] := by
  refine EQq (by decide) (fun T => personF T x w) (fun σ T P K h hk => ?_) (fun σ T P K h hk => ?_)
  · obtain ⟨m, hw, hv, hx⟩ := h.p
    have h8 := hw.1.2.1
    have l3 : LEN 3 = 8 := rfl
    have l4 : LEN 4 = 8 := rfl
    have l5 : LEN 5 = 8 := rfl
    have l7 : LEN 7 = 8 := rfl
    have hk := hk σ Ex.rf
    unfold personF at hk
    refine bX6_person ⟨hv.1, x_hasP h (fun g => br_f2 (by decide) ?_) (fun g => br_t2 rfl (by rw [if_neg g] at hk; exact hk))⟩
    rw [if_pos g] at hk
    obtain ⟨p, rfl, hp⟩ := inP_n g
    rw [Int.toNat_natCast] at hk ⊢
    obtain ⟨c3, c4, c5, c7, c6⟩ := hv.2.2.2.2 p hp
    have c3 : σ 3 p = T 3 p := c3
    have c4 : σ 4 p = T 4 p := c4
    have c5 : σ 5 p = T 5 p := c5
    have c7 : σ 7 p = T 7 p := c7
    rw [c3, c4, c5, c7]
    refine ⟨fun q => ⟨hv.1, by omega, by omega, ?_⟩, fun q => ⟨hv.1, by omega, by omega, ?_⟩, fun q => ⟨hv.1, by omega, by omega, ?_⟩, fun q => ⟨hv.1, by omega, by omega, x_lv ?_⟩, fun q => ⟨hv.1, s_worthNow hv hw hp ?_⟩, fun q => ?_⟩
    · rw [if_pos q] at hk; exact hk
    · rw [if_neg (by omega), if_pos q] at hk; exact hk
    · rw [if_neg (by omega), if_neg (by omega), if_pos q] at hk; exact hk
    · rw [if_neg (by omega), if_neg (by omega), if_neg (by omega), if_pos q] at hk; exact hk
    · rw [if_neg (by omega), if_neg (by omega), if_neg (by omega), if_neg (by omega), if_pos q] at hk; exact hk
    · rw [if_neg (by omega), if_neg (by omega), if_neg (by omega), if_neg (by omega), if_neg (by omega)] at hk; exact hk
  · obtain ⟨m, hw, hv, hx⟩ := h.p
    have h8 := hw.1.2.1
    have hk := hk σ Ex.rf m
    unfold personF at hk
    refine bX7_person (y_isP h (fun g => br_f2 (by decide) (m_isIn (fun q => br_f2 (by decide) ?_) (fun q => br_t2 rfl ⟨fun q2 => ?_, fun q2 => ?_⟩))) (fun g => br_t2 rfl (by rw [if_neg g] at hk; exact hk)))
    · rw [if_pos g] at hk
      obtain ⟨p, rfl, hp⟩ := inP_n g
      rw [Int.toNat_natCast] at hk
      obtain ⟨c3, c4, c5, c7, c6⟩ := m.1.2.2.2 p hp
      obtain ⟨k, rfl⟩ : ∃ k : Nat, w = k := ⟨w.toNat, by omega⟩
      refine m_get (by omega) (by omega) ?_
      have hk4 : k = 0 ∨ k = 1 ∨ k = 2 ∨ k = 3 := by omega
      rcases hk4 with rfl | rfl | rfl | rfl
      · rw [if_pos (by decide)] at hk
        rw [show 35 + 9 * p + 0 = 35 + 9 * p by omega, c3]; exact hk
      · rw [if_neg (by decide), if_pos (by decide)] at hk
        rw [show 35 + 9 * p + 1 = 36 + 9 * p by omega, c4]; exact hk
      · rw [if_neg (by decide), if_neg (by decide), if_pos (by decide)] at hk
        rw [show 35 + 9 * p + 2 = 37 + 9 * p by omega, c5]; exact hk
      · rw [if_neg (by decide), if_neg (by decide), if_neg (by decide), if_pos (by decide)] at hk
        rw [show 35 + 9 * p + 3 = 38 + 9 * p by omega, c7]; exact hk
    · rw [if_pos g] at hk
      obtain ⟨p, rfl, hp⟩ := inP_n g
      rw [Int.toNat_natCast, if_neg (by omega), if_neg (by omega), if_neg (by omega), if_neg (by omega), if_pos q2] at hk
      exact m_worthOf m.1 hw hp hk
    · rw [if_pos g, if_neg (by omega), if_neg (by omega), if_neg (by omega), if_neg (by omega), if_neg q2] at hk
      exact hk
theorem eq_wish {x y : Int} : EQ iX6_wish iX7_wish [aI x, aI y] := by
  refine EQq (by decide) (fun T => if inP T x ∧ inS T y then T 6 (5 * x.toNat + y.toNat) else -1) (fun σ T P K h hk => ?_) (fun σ T P K h hk => ?_)
  · obtain ⟨m, hw, hv, hx⟩ := h.p
    have hk := hk σ Ex.rf
    refine bX6_wish ⟨hv.1, x_hasP h (fun g => br_f2 (by decide) ⟨hv.1, x_hasS h (fun g2 => br_f2 (by decide) ⟨hv.1, ?_⟩) (fun g2 => br_t2 rfl ?_)⟩) (fun g => br_t2 rfl ?_)⟩
    · rw [if_pos ⟨g, g2⟩] at hk
      obtain ⟨a, rfl, ha⟩ := inP_n g
      obtain ⟨b, rfl, hb⟩ := inS_n g2
      exact s_wishOf hv hw ha hb hk
    · rw [if_neg (fun z => g2 z.2)] at hk; exact hk
    · rw [if_neg (fun z => g z.1)] at hk; exact hk
  · obtain ⟨m, hw, hv, hx⟩ := h.p
    have hk := hk σ Ex.rf m
    have h8 := hw.1.2.1
    have h5 := hw.1.1
    refine bX7_wish (y_isP h (fun g => br_f2 (by decide) (y_isS h (fun g2 => br_f2 (by decide) ?_) (fun g2 => br_t2 rfl ?_))) (fun g => br_t2 rfl ?_))
    · rw [if_pos ⟨g, g2⟩] at hk
      obtain ⟨a, rfl, ha⟩ := inP_n g
      obtain ⟨b, rfl, hb⟩ := inS_n g2
      rw [wr4 (by omega)]
      refine m_get (by omega) (by omega) ?_
      rw [show 35 + 9 * a + (4 + b) = 39 + 9 * a + b by omega, (m.1.2.2.2 a ha).2.2.2.2 b hb]
      exact hk
    · rw [if_neg (fun z => g2 z.2)] at hk; exact hk
    · rw [if_neg (fun z => g z.1)] at hk; exact hk
theorem eq_lawful : EQ iX6_lawful iX7_lawful [] := by
  refine EQq (by decide) (fun T => b2i (lawful T)) (fun σ T P K h hk => ?_) (fun σ T P K h hk => ?_)
  · obtain ⟨m, hw, hv, hx⟩ := h.p
    exact bX6_lawful ⟨hv.1, s_isLawful hv hw (fun q σ1 e => x_oneIf (b := true) (by have := hk σ1 e.x8; rw [q] at this; exact this)) (fun q σ1 e => x_oneIf (b := false) (by have := hk σ1 e.x8; rw [q] at this; exact this))⟩
  · obtain ⟨m, hw, hv, hx⟩ := h.p
    have hk := hk σ Ex.rf m
    exact bX7_lawful (m_isLawful m.1 hw (g2 (fun q => by rw [q] at hk; exact hk) (fun q => by rw [q] at hk; exact hk)))
theorem eq_firstUnlawful : EQ iX6_firstUnlawful iX7_firstUnlawful [] := by
  refine EQq (by decide) fb (fun σ T P K h hk => ?_) (fun σ T P K h hk => ?_)
  · obtain ⟨m, hw, hv, hx⟩ := h.p
    exact bX6_firstUnlawful ⟨hv.1, s_firstBroken hv hw (fun σ1 e => hk σ1 e.x8)⟩
  · obtain ⟨m, hw, hv, hx⟩ := h.p
    exact bX7_firstUnlawful (m_firstWrong m.1 hw (hk σ Ex.rf m))
theorem eq_worth : EQ iX6_worth iX7_worth [] := by
  refine EQq (by decide) wSum (fun σ T P K h hk => ?_) (fun σ T P K h hk => ?_)
  · obtain ⟨m, hw, hv, hx⟩ := h.p
    exact bX6_worth ⟨hv.1, s_worthOfAll hv hw (hk σ Ex.rf)⟩
  · obtain ⟨m, hw, hv, hx⟩ := h.p
    exact bX7_worth (m_worths m.1 hw (hk σ Ex.rf m))
theorem eq_worthIn {x y : Int} : EQ iX6_worthIn iX7_worthIn [aI x, aI y] := by
  refine EQq (by decide) (fun T => if inP T x ∧ inS T y then wAt T x.toNat y.toNat else -1) (fun σ T P K h hk => ?_) (fun σ T P K h hk => ?_)
  · obtain ⟨m, hw, hv, hx⟩ := h.p
    have hk := hk σ Ex.rf
    refine bX6_worthIn ⟨hv.1, x_hasP h (fun g => br_f2 (by decide) ⟨hv.1, x_hasS h (fun g2 => br_f2 (by decide) ⟨hv.1, ?_⟩) (fun g2 => br_t2 rfl ?_)⟩) (fun g => br_t2 rfl ?_)⟩
    · rw [if_pos ⟨g, g2⟩] at hk
      obtain ⟨a, rfl, ha⟩ := inP_n g
      obtain ⟨b, rfl, hb⟩ := inS_n g2
      exact s_worthAt hv hw ha hb hk
    · rw [if_neg (fun z => g2 z.2)] at hk; exact hk
    · rw [if_neg (fun z => g z.1)] at hk; exact hk
  · obtain ⟨m, hw, hv, hx⟩ := h.p
    have hk := hk σ Ex.rf m
    refine bX7_worthIn (y_isP h (fun g => br_f2 (by decide) (y_isS h (fun g2 => br_f2 (by decide) ?_) (fun g2 => br_t2 rfl ?_))) (fun g => br_t2 rfl ?_))
    · rw [if_pos ⟨g, g2⟩] at hk
      obtain ⟨a, rfl, ha⟩ := inP_n g
      obtain ⟨b, rfl, hb⟩ := inS_n g2
      exact m_worthAt m.1 hw ha hb hk
    · rw [if_neg (fun z => g2 z.2)] at hk; exact hk
    · rw [if_neg (fun z => g z.1)] at hk; exact hk
theorem LX_mo {σ σ' : Sg} (h : Ex (LMo 0) σ σ') : Ex LX σ σ' := h.mono (by simp)
theorem LX_mo18 {σ σ' : Sg} (h : Ex (LMo 18) σ σ') : Ex LX σ σ' := h.mono (by simp)
theorem LM_fi {σ σ' : Sg} (h : Ex LFi σ σ') : Ex LM σ σ' := h.mono (by simp)
def chsF (T : Sg) (B : Int × (Nat → Int)) (x : Int) : Int := if x = -1 then B.1 else if inP T x then lv (B.2 x.toNat) else -1
theorem eq_most {x : Int} : EQ iX6_most iX7_most [aI x] := by
  refine EQq (by decide) (fun T => chsF T (fsB T gn1) x) (fun σ T P K h hk => ?_) (fun σ T P K h hk => ?_)
  · obtain ⟨m, hw, hv, hx⟩ := h.p
    have l50 : LEN 50 = 8 := rfl
    have h8 := hw.1.2.1
    unfold chsF at hk
    refine bX6_most ⟨fun q => s_largest (d := 6) hv hw (fun σ1 e c => br_t2 q ?_), fun q => ⟨hv.1, x_hasP h (fun g => br_f2 (by decide) (s_largest (d := 6) hv hw (fun σ1 e c => br_f2 q ?_))) (fun g => br_t2 rfl ?_)⟩⟩
    · have := hk σ1 (LX_mo e)
      rw [if_pos q] at this; exact this
    · have hk := hk σ1 (LX_mo e)
      rw [if_neg q, if_pos g] at hk
      obtain ⟨p, rfl, hp⟩ := inP_n g
      rw [Int.toNat_natCast] at hk ⊢
      rw [c p hp]
      exact ⟨by omega, by omega, x_lv hk⟩
    · have := hk σ Ex.rf
      rw [if_neg q, if_neg g] at this; exact this
  · obtain ⟨m, hw, hv, hx⟩ := h.p
    have l101 : LEN 101 = 8 := rfl
    have h8 := hw.1.2.1
    unfold chsF at hk
    refine bX7_most ⟨fun q => m_finds1 (d := 4) m hw (fun σ1 e _ m1 c c2 => br_t2 (by omega) ?_), fun q => y_isP h (fun g => br_f2 (by decide) (m_finds1 (d := 4) m hw (fun σ1 e _ m1 c c2 => br_f2 (by have := g.1; omega) ?_))) (fun g => br_t2 rfl ?_)⟩
    · have := hk σ1 (LM_fi e) m1
      rw [if_pos q] at this
      rw [c]; exact this
    · have hk := hk σ1 (LM_fi e) m1
      rw [if_neg q, if_pos g] at hk
      obtain ⟨p, rfl, hp⟩ := inP_n g
      rw [Int.toNat_natCast] at hk ⊢
      rw [c2 p hp]
      exact ⟨by omega, by omega, hk⟩
    · have := hk σ Ex.rf m
      rw [if_neg q, if_neg g] at this; exact this
theorem eq_best {x : Int} : EQ iX6_best iX7_best [aI x] := by
  refine EQq (by decide) (fun T => chsF T (fsB T (gnW T)) x) (fun σ T P K h hk => ?_) (fun σ T P K h hk => ?_)
  · obtain ⟨m, hw, hv, hx⟩ := h.p
    have l50 : LEN 50 = 8 := rfl
    have h8 := hw.1.2.1
    unfold chsF at hk
    refine bX6_best ⟨fun q => s_dearest (d := 6) hv hw (fun σ1 e c => br_t2 q ?_), fun q => ⟨hv.1, x_hasP h (fun g => br_f2 (by decide) (s_dearest (d := 6) hv hw (fun σ1 e c => br_f2 q ?_))) (fun g => br_t2 rfl ?_)⟩⟩
    · have := hk σ1 (LX_mo e)
      rw [if_pos q] at this; exact this
    · have hk := hk σ1 (LX_mo e)
      rw [if_neg q, if_pos g] at hk
      obtain ⟨p, rfl, hp⟩ := inP_n g
      rw [Int.toNat_natCast] at hk ⊢
      rw [c p hp]
      exact ⟨by omega, by omega, x_lv hk⟩
    · have := hk σ Ex.rf
      rw [if_neg q, if_neg g] at this; exact this
  · obtain ⟨m, hw, hv, hx⟩ := h.p
    have l101 : LEN 101 = 8 := rfl
    have h8 := hw.1.2.1
    unfold chsF at hk
    refine bX7_best ⟨fun q => m_finds0 (d := 4) m hw (fun σ1 e _ m1 c c2 => br_t2 (by omega) ?_), fun q => y_isP h (fun g => br_f2 (by decide) (m_finds0 (d := 4) m hw (fun σ1 e _ m1 c c2 => br_f2 (by have := g.1; omega) ?_))) (fun g => br_t2 rfl ?_)⟩
    · have := hk σ1 (LM_fi e) m1
      rw [if_pos q] at this
      rw [c]; exact this
    · have hk := hk σ1 (LM_fi e) m1
      rw [if_neg q, if_pos g] at hk
      obtain ⟨p, rfl, hp⟩ := inP_n g
      rw [Int.toNat_natCast] at hk ⊢
      rw [c2 p hp]
      exact ⟨by omega, by omega, hk⟩
    · have := hk σ Ex.rf m
      rw [if_neg q, if_neg g] at this; exact this
theorem eq_stable : EQ iX6_stable iX7_stable [] := by
  refine EQq (by decide) (fun T => b2i (!anyI (opW T) (nP T) 0)) (fun σ T P K h hk => ?_) (fun σ T P K h hk => ?_)
  · obtain ⟨m, hw, hv, hx⟩ := h.p
    refine bX6_stable (s_anyOpen hv hw (by decide) (fun σ1 e => ⟨fun q => br_f2 (by decide) (x_oneIf (b := false) ?_), fun q => br_t2 rfl (x_oneIf (b := true) ?_)⟩))
    · have := hk σ1 (e.mono (by simp))
      rw [q] at this; exact this
    · have := hk σ1 (e.mono (by simp))
      rw [q] at this; exact this
  · obtain ⟨m, hw, hv, hx⟩ := h.p
    refine m_stable (d := 12) m hw (fun σ1 e m1 => ⟨fun q => ?_, fun q => ?_⟩)
    · have := hk σ1 (e.mono (by simp)) m1
      rw [q] at this; exact this
    · have := hk σ1 (e.mono (by simp)) m1
      rw [q] at this; exact this
theorem eq_found {x : Int} : EQ iX6_found iX7_found [aI x] := by
  refine EQq (by decide) (fun T => if x = -1 then ((stl 40 0 T).1 : Nat) else if inP T x then lv ((stl 40 0 T).2 7 x.toNat) else -1) (fun σ T P K h hk => ?_) (fun σ T P K h hk => ?_)
  · obtain ⟨m, hw, hv, hx⟩ := h.p
    have l34 : LEN 34 = 8 := rfl
    have h8 := hw.1.2.1
    have st0 : ∀ k n T1, (stl k n T1).2 0 = T1 0 := by
      intro k
      induction k with
      | zero => intro n T1; rfl
      | succ k ih =>
        intro n T1
        show (match fo T1 with | some (w, s) => stl k (n + 1) (up T1 7 w s) | none => (n, T1)).2 0 = T1 0
        split
        · rw [ih, u70]
        · rfl
    refine bX6_found ⟨fun q => s_settle hv hw (by decide) (fun σ1 e v1 w1 => br_t2 q ?_), fun q => ⟨hv.1, x_hasP h (fun g => br_f2 (by decide) (s_settle hv hw (by decide) (fun σ1 e v1 w1 => br_f2 q ?_))) (fun g => br_t2 rfl ?_)⟩⟩
    · have := hk σ1 (e.mono (by simp))
      rw [if_pos q] at this; exact this
    · have hk := hk σ1 (e.mono (by simp))
      rw [if_neg q, if_pos g] at hk
      obtain ⟨p, rfl, hp⟩ := inP_n g
      rw [Int.toNat_natCast] at hk ⊢
      have c := (v1.2.2.2.2 p (by rw [st0]; exact hp)).2.2.2.1
      have c : σ1 34 p = (stl 40 0 T).2 7 p := c
      rw [c]
      exact ⟨tw27, by omega, by omega, x_lv hk⟩
    · have := hk σ Ex.rf
      rw [if_neg q, if_neg g] at this; exact this
  · obtain ⟨m, hw, hv, hx⟩ := h.p
    refine m_found (d := 12) m hw (fun g => ?_) (fun g σ1 e m1 => ?_)
    · have := hk σ Ex.rf m
      rw [if_neg (fun z => g (Or.inl z)), if_neg (fun z => g (Or.inr z))] at this; exact this
    · have := hk σ1 (e.mono (by simp)) m1
      by_cases q : x = -1
      · rw [if_pos q] at this
        rw [if_pos (by omega)]; exact this
      · rw [if_neg q, if_pos (g.resolve_left q)] at this
        rw [if_neg (by have := g.resolve_left q; omega)]; exact this
theorem eq_shortest {x : Int} : EQ iX6_shortest iX7_shortest [aI x] := by
  refine EQq (by decide) (fun T => if x < -1 then -1 else shV (shF T) x) (fun σ T P K h hk => ?_) (fun σ T P K h hk => ?_)
  · obtain ⟨m, hw, hv, hx⟩ := h.p
    have l58 : LEN 58 = 3 := rfl
    refine bX6_shortest ⟨fun q => ?_, fun q => ?_⟩
    · have := hk σ Ex.rf
      rw [if_pos q] at this; exact this
    · rw [if_neg q] at hk
      refine s_findSteps (d := 9) hv hw (by decide) (fun n a hs n1 n3 σ1 e c => br_f2 (by omega) ?_) (fun hs σ1 e => br_t2 rfl ?_)
      · have hk := hk σ1 (e.mono (by simp))
        rw [hs] at hk
        have hk : K (if x < 0 then (n : Int) else if x < n then (a x.toNat : Int) else -4) σ1 := hk
        refine ⟨fun q2 => ⟨fun q3 => ?_, fun q3 => ⟨by omega, by omega, ?_⟩⟩, fun q2 => ?_⟩
        · rw [if_pos (by omega)] at hk; exact hk
        · rw [if_neg (by omega), if_pos (by omega)] at hk
          rw [(c x.toNat (by omega)).1]; exact hk
        · rw [if_neg (by omega), if_neg (by omega)] at hk; exact hk
      · have hk := hk σ1 (e.mono (by simp))
        rw [hs] at hk; exact hk
  · obtain ⟨m, hw, hv, hx⟩ := h.p
    refine m_shortest (d := 9) m hw (fun q => ?_) (fun q σ1 e m1 => ?_)
    · have := hk σ Ex.rf m
      rw [if_pos q] at this; exact this
    · have := hk σ1 (e.mono (by simp)) m1
      rw [if_neg q] at this; exact this
theorem eq_learn {x : Int} : EQ iX6_learn iX7_learn [aI x] := by
  refine EQq (by decide) (fun T => if inP T x then (if T 7 x.toNat = 9 then -4 else lnF T x.toNat 8 0 (-4) (-1)) else -1) (fun σ T P K h hk => ?_) (fun σ T P K h hk => ?_)
  · obtain ⟨m, hw, hv, hx⟩ := h.p
    refine bX6_learn ⟨hv.1, x_hasP h (fun g => br_f2 (by decide) ?_) (fun g => br_t2 rfl ?_)⟩
    · obtain ⟨p, rfl, hp⟩ := inP_n g
      refine s_bestLesson hv hw (by decide) hp (fun σ1 e => ?_)
      have := hk σ1 (e.mono (by simp))
      rw [if_pos g, Int.toNat_natCast] at this; exact this
    · have := hk σ Ex.rf
      rw [if_neg g] at this; exact this
  · obtain ⟨m, hw, hv, hx⟩ := h.p
    refine m_learn (d := 15) m hw (fun g => ?_) (fun g σ1 e m1 => ?_)
    · have := hk σ Ex.rf m
      rw [if_neg g] at this; exact this
    · have := hk σ1 (e.mono (by simp)) m1
      rw [if_pos g] at this; exact this
theorem eq_where {x : Int} : EQ iX6_where iX7_where [aI x] := by
  refine EQq (by decide) (fun T => if inP T x then lv (bsF T x.toNat (nS T) 0 9 (-1)) else -1) (fun σ T P K h hk => ?_) (fun σ T P K h hk => ?_)
  · obtain ⟨m, hw, hv, hx⟩ := h.p
    refine bX6_where ⟨hv.1, x_hasP h (fun g => br_f2 (by decide) ⟨hv.1, ?_⟩) (fun g => br_t2 rfl ?_)⟩
    · obtain ⟨p, rfl, hp⟩ := inP_n g
      refine s_bestStreet hv hw hp (fun σ1 e => x_lv ?_)
      have := hk σ1 e.x8
      rw [if_pos g, Int.toNat_natCast] at this; exact this
    · have := hk σ Ex.rf
      rw [if_neg g] at this; exact this
  · obtain ⟨m, hw, hv, hx⟩ := h.p
    refine m_where (d := 13) m hw (fun g => ?_) (fun g σ1 e m1 => ?_)
    · have := hk σ Ex.rf m
      rw [if_neg g] at this; exact this
    · have := hk σ1 (e.mono (by simp)) m1
      rw [if_pos g] at this; exact this
theorem x_isCraft {d : Nat} {x : Int} {σ : Sg} {K : Kt} (h1 : 0 ≤ x ∧ x < 8 → K 1 σ) (h0 : ¬ (0 ≤ x ∧ x < 8) → K 0 σ) : wpCall (d + 1) iX6_isCraft [aI x] σ K :=
  bX6_isCraft ⟨fun q => ⟨by decide, h0 (by omega)⟩, fun q => ⟨fun q2 => ⟨by decide, h1 (by omega)⟩, fun q2 => ⟨by decide, h0 (by omega)⟩⟩⟩
theorem eq_walk {x y : Int} : EQ iX6_walk iX7_walk [aI x, aI y] := by
  refine EQq (by decide) (fun T => if inS T x ∧ (0 ≤ y ∧ y < 8) then walkF T x.toNat y.toNat else -1) (fun σ T P K h hk => ?_) (fun σ T P K h hk => ?_)
  · obtain ⟨m, hw, hv, hx⟩ := h.p
    have hk := hk σ Ex.rf
    refine bX6_walk ⟨hv.1, x_hasS h (fun g => br_f2 (by decide) (x_isCraft (fun g2 => br_f2 (by decide) ⟨hv.1, ?_⟩) (fun g2 => br_t2 rfl ?_))) (fun g => br_t2 rfl ?_)⟩
    · rw [if_pos ⟨g, g2⟩] at hk
      obtain ⟨s, rfl, hs⟩ := inS_n g
      obtain ⟨c, rfl⟩ : ∃ c : Nat, y = c := ⟨y.toNat, by omega⟩
      rw [Int.toNat_natCast, Int.toNat_natCast] at hk
      unfold walkF at hk
      refine s_crowdWith hv hw ⟨fun q => ?_, fun q => ⟨hv.1, s_walkToOther hv hw hs ?_⟩⟩
      · rw [if_pos q] at hk; exact hk
      · rw [if_neg q] at hk; exact hk
    · rw [if_neg (fun z => g2 z.2)] at hk; exact hk
    · rw [if_neg (fun z => g z.1)] at hk; exact hk
  · obtain ⟨m, hw, hv, hx⟩ := h.p
    have hk := hk σ Ex.rf m
    refine m_walk (d := 16) m hw (fun g => ?_) (fun g g2 => ?_)
    · rw [if_neg g] at hk; exact hk
    · rw [if_pos ⟨g, g2⟩] at hk; exact hk
theorem eq_price {x y : Int} : EQ iX6_price iX7_price [aI x, aI y] := by
  refine EQq (by decide) (fun T => if inS T x ∧ (0 ≤ y ∧ y < 8) then priceF (withC T x.toNat y.toNat) (wkF T x.toNat y.toNat (nS T) 0 (-4)) else -1) (fun σ T P K h hk => ?_) (fun σ T P K h hk => ?_)
  · obtain ⟨m, hw, hv, hx⟩ := h.p
    have hk := hk σ Ex.rf
    refine bX6_price ⟨hv.1, x_hasS h (fun g => br_f2 (by decide) (x_isCraft (fun g2 => br_f2 (by decide) ⟨hv.1, ?_⟩) (fun g2 => br_t2 rfl ?_))) (fun g => br_t2 rfl ?_)⟩
    · rw [if_pos ⟨g, g2⟩] at hk
      obtain ⟨s, rfl, hs⟩ := inS_n g
      obtain ⟨c, rfl⟩ : ∃ c : Nat, y = c := ⟨y.toNat, by omega⟩
      exact s_priceAt hv hw hs hk
    · rw [if_neg (fun z => g2 z.2)] at hk; exact hk
    · rw [if_neg (fun z => g z.1)] at hk; exact hk
  · obtain ⟨m, hw, hv, hx⟩ := h.p
    have hk := hk σ Ex.rf m
    refine m_price (d := 16) m hw (fun g => ?_) (fun g g2 => ?_)
    · rw [if_neg g] at hk; exact hk
    · rw [if_pos ⟨g, g2⟩] at hk; exact hk
theorem eq_alone : EQ iX6_alone iX7_alone [] := by
  refine EQq (by decide) aloneN (fun σ T P K h hk => ?_) (fun σ T P K h hk => ?_)
  · obtain ⟨m, hw, hv, hx⟩ := h.p
    exact bX6_alone ⟨hv.1, s_craftsAlone hv hw (hk σ Ex.rf)⟩
  · obtain ⟨m, hw, hv, hx⟩ := h.p
    exact m_alone (d := 17) m hw (hk σ Ex.rf m)
