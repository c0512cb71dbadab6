/-! YEARS, OTHER STREETS, OTHER LAWS, COUNTS -/
theorem x_areYears {d : Nat} {n y : Int} {σ : Sg} {K : Kt} (h1 : (1 ≤ n ∧ n ≤ 30) ∧ (0 ≤ y ∧ y ≤ 99) → K 1 σ) (h0 : ¬ ((1 ≤ n ∧ n ≤ 30) ∧ (0 ≤ y ∧ y ≤ 99)) → K 0 σ) : wpCall (d + 1) iX6_areYears [aI n, aI y] σ K :=
  bX6_areYears ⟨fun q => ⟨by decide, h0 (by omega)⟩, fun q => ⟨fun q2 => ⟨by decide, h0 (by omega)⟩, fun q2 => ⟨fun q3 => ⟨by decide, h0 (by omega)⟩, fun q3 => ⟨fun q4 => ⟨by decide, h0 (by omega)⟩, fun q4 => ⟨by decide, h1 (by omega)⟩⟩⟩⟩⟩
theorem eq_years {n z y w : Int} : EQ iX6_years iX7_years [aI n, aI z, aI y, aI w] := by
  refine EQq (by decide) (fun T => if ((1 ≤ n ∧ n ≤ 30) ∧ (0 ≤ y ∧ y ≤ 99)) ∧ (0 ≤ w ∧ w ≤ 1) then (if w = 0 then crowd (yrF y n.toNat z T 0 (fun _ => 0)).1 9 else (yrF y n.toNat z T 0 (fun _ => 0)).2.1) else -1) (fun σ T P K h hk => ?_) (fun σ T P K h hk => ?_)
  · obtain ⟨m, hw, hv, hx⟩ := h.p
    have no : ¬ (((1 ≤ n ∧ n ≤ 30) ∧ (0 ≤ y ∧ y ≤ 99)) ∧ (0 ≤ w ∧ w ≤ 1)) → K (-1) σ := fun q => by
      have := hk σ Ex.rf
      rw [if_neg q] at this; exact this
    refine bX6_years (x_areYears (fun g => br_f2 (by decide) ⟨fun q => no (by omega), fun q => ⟨fun q2 => no (by omega), fun q2 => ?_⟩⟩) (fun g => br_t2 rfl (no (fun z => g z.1))))
    obtain ⟨m0, rfl⟩ : ∃ m0 : Nat, n = m0 := ⟨n.toNat, by omega⟩
    refine s_liveOn hv hw (by decide) (by omega) (fun σ1 e v1 w1 _ c6 c59 => ?_)
    have hk := hk σ1 (e.mono (by simp))
    rw [if_pos ⟨g, by omega⟩, Int.toNat_natCast] at hk
    refine ⟨fun q3 => ⟨tw27, s_crowdIn v1 w1 ?_⟩, fun q3 => ?_⟩
    · rw [if_pos q3] at hk; exact hk
    · rw [if_neg q3] at hk; rw [c6]; exact hk
  · obtain ⟨m, hw, hv, hx⟩ := h.p
    have no : ¬ (((1 ≤ n ∧ n ≤ 30) ∧ (0 ≤ y ∧ y ≤ 99)) ∧ (0 ≤ w ∧ w ≤ 1)) → K (-1) σ := fun q => by
      have := hk σ Ex.rf m
      rw [if_neg q] at this; exact this
    refine bX7_years (m_isIn (fun g => br_f2 (by decide) (m_isIn (fun g2 => br_f2 (by decide) (m_isIn (fun g3 => br_f2 (by decide) ?_) (fun g3 => br_t2 rfl (no (fun z => g3 z.2))))) (fun g2 => br_t2 rfl (no (fun z => g2 z.1.2))))) (fun g => br_t2 rfl (no (fun z => g z.1.1))))
    obtain ⟨m0, rfl⟩ : ∃ m0 : Nat, n = m0 := ⟨n.toNat, by omega⟩
    refine m_goesYears (d := 12) m hw (by omega) (fun σ1 e m1 c38 c39 c107 => ?_)
    have hk := hk σ1 (e.mono (by simp)) m1
    rw [if_pos ⟨⟨g, g2⟩, g3⟩, Int.toNat_natCast] at hk
    rw [c38, c39]
    refine ⟨fun q3 => ?_, fun q3 => ?_⟩
    · rw [if_pos q3] at hk; exact hk
    · rw [if_neg q3] at hk; exact hk
theorem eq_waits {x n z y : Int} : EQ iX6_waits iX7_waits [aI x, aI n, aI z, aI y] := by
  refine EQq (by decide) (fun T => if inP T x ∧ ((1 ≤ n ∧ n ≤ 30) ∧ (0 ≤ y ∧ y ≤ 99)) then (yrF y n.toNat z T 0 (fun _ => 0)).2.2 x.toNat else -1) (fun σ T P K h hk => ?_) (fun σ T P K h hk => ?_)
  · obtain ⟨m, hw, hv, hx⟩ := h.p
    have h8 := hw.1.2.1
    have l59 : LEN 59 = 8 := rfl
    have no : ¬ (inP T x ∧ ((1 ≤ n ∧ n ≤ 30) ∧ (0 ≤ y ∧ y ≤ 99))) → K (-1) σ := fun q => by
      have := hk σ Ex.rf
      rw [if_neg q] at this; exact this
    refine bX6_waits ⟨hv.1, x_hasP h (fun g => br_f2 (by decide) (x_areYears (fun g2 => br_f2 (by decide) ?_) (fun g2 => br_t2 rfl (no (fun z => g2 z.2))))) (fun g => br_t2 rfl (no (fun z => g z.1)))⟩
    obtain ⟨m0, rfl⟩ : ∃ m0 : Nat, n = m0 := ⟨n.toNat, by omega⟩
    refine s_liveOn hv hw (by decide) (by omega) (fun σ1 e v1 w1 _ c6 c59 => ?_)
    have hk := hk σ1 (e.mono (by simp))
    rw [if_pos ⟨g, g2⟩, Int.toNat_natCast] at hk
    obtain ⟨p, rfl, hp⟩ := inP_n g
    rw [Int.toNat_natCast] at hk ⊢
    rw [c59 p hp]
    exact ⟨by omega, by omega, hk⟩
  · obtain ⟨m, hw, hv, hx⟩ := h.p
    have h8 := hw.1.2.1
    have l107 : LEN 107 = 8 := rfl
    have no : ¬ (inP T x ∧ ((1 ≤ n ∧ n ≤ 30) ∧ (0 ≤ y ∧ y ≤ 99))) → K (-1) σ := fun q => by
      have := hk σ Ex.rf m
      rw [if_neg q] at this; exact this
    refine bX7_waits (y_isP h (fun g => br_f2 (by decide) (m_isIn (fun g2 => br_f2 (by decide) (m_isIn (fun g3 => br_f2 (by decide) ?_) (fun g3 => br_t2 rfl (no (fun z => g3 z.2.2))))) (fun g2 => br_t2 rfl (no (fun z => g2 z.2.1))))) (fun g => br_t2 rfl (no (fun z => g z.1))))
    obtain ⟨m0, rfl⟩ : ∃ m0 : Nat, n = m0 := ⟨n.toNat, by omega⟩
    refine m_goesYears (d := 12) m hw (by omega) (fun σ1 e m1 c38 c39 c107 => ?_)
    have hk := hk σ1 (e.mono (by simp)) m1
    rw [if_pos ⟨g, g2, g3⟩, Int.toNat_natCast] at hk
    obtain ⟨p, rfl, hp⟩ := inP_n g
    rw [Int.toNat_natCast] at hk ⊢
    rw [c107 p hp]
    exact ⟨by omega, by omega, hk⟩
def lenT (T : Sg) (h : Int) : Sg := fun i => if i = 1 then (fun _ => h) else T i
def hidT (T : Sg) : Sg := fun i => if i = 4 then (fun _ => 0) else T i
theorem lenT_n {T : Sg} {h : Int} {i : Nat} (hi : i ≠ 1) : lenT T h i = T i := by unfold lenT; rw [if_neg hi]
theorem hidT_n {T : Sg} {i : Nat} (hi : i ≠ 4) : hidT T i = T i := by unfold hidT; rw [if_neg hi]
theorem lenT_T {T : Sg} {h h' : Int} : lenT (lenT T h) h' = lenT T h' := by
  funext i
  unfold lenT
  split
  · rfl
  · rfl
theorem WF_lenT {T : Sg} {h : Int} (hw : WF T) (hh : 1 ≤ h ∧ h ≤ 4) : WF (lenT T h) := by
  obtain ⟨hn, wh, ww, wp⟩ := hw
  exact ⟨hn, fun s hs => hh, ww, wp⟩
theorem WF_hidT {T : Sg} (hw : WF T) : WF (hidT T) := by
  obtain ⟨hn, wh, ww, wp⟩ := hw
  refine ⟨hn, wh, ww, fun p hp => ?_⟩
  obtain ⟨c3, c4, c5, c7, c6⟩ := wp p hp
  exact ⟨c3, U8_0, c5, c7, c6⟩
theorem TV_lenT {σ σ' T : Sg} {t : Nat} {h : Int} (hv : TV σ t T) (h5 : T 0 0 ≤ 5) (e : Ex [t + 1] σ σ') (hh : ∀ k : Nat, (k : Int) < 5 → σ' (t + 1) k = h) : TV σ' t (lenT T h) := by
  obtain ⟨ht, ⟨e0, e3, e9, e10, e11⟩, eh, ew, ep⟩ := hv
  have o : ∀ a, a ≠ t + 1 → ∀ k, σ' a k = σ a k := fun a ha k => e a (by simpa using ha) k
  refine ⟨ht, ⟨(o _ (by omega) _).trans e0, (o _ (by omega) _).trans e3, (o _ (by omega) _).trans e9, (o _ (by omega) _).trans e10, (o _ (by omega) _).trans e11⟩, fun s hs => ?_, fun a b ha hb => (o _ (by omega) _).trans (ew a b ha hb), fun p hp => ?_⟩
  · have hs : (s : Int) < T 0 0 := hs
    exact hh s (by omega)
  · obtain ⟨c3, c4, c5, c7, c6⟩ := ep p hp
    exact ⟨(o _ (by omega) _).trans c3, (o _ (by omega) _).trans c4, (o _ (by omega) _).trans c5, (o _ (by omega) _).trans c7, fun s hs => (o _ (by omega) _).trans (c6 s hs)⟩
theorem TV_hidT {σ σ' T : Sg} {t : Nat} (hv : TV σ t T) (h8 : T 0 1 ≤ 8) (e : Ex [t + 4] σ σ') (hh : ∀ k : Nat, (k : Int) < 8 → σ' (t + 4) k = 0) : TV σ' t (hidT T) := by
  obtain ⟨ht, ⟨e0, e3, e9, e10, e11⟩, eh, ew, ep⟩ := hv
  have o : ∀ a, a ≠ t + 4 → ∀ k, σ' a k = σ a k := fun a ha k => e a (by simpa using ha) k
  refine ⟨ht, ⟨(o _ (by omega) _).trans e0, (o _ (by omega) _).trans e3, (o _ (by omega) _).trans e9, (o _ (by omega) _).trans e10, (o _ (by omega) _).trans e11⟩, fun s hs => (o _ (by omega) _).trans (eh s hs), fun a b ha hb => (o _ (by omega) _).trans (ew a b ha hb), fun p hp => ?_⟩
  have hp : (p : Int) < T 0 1 := hp
  obtain ⟨c3, c4, c5, c7, c6⟩ := ep p hp
  exact ⟨(o _ (by omega) _).trans c3, hh p (by omega), (o _ (by omega) _).trans c5, (o _ (by omega) _).trans c7, fun s hs => (o _ (by omega) _).trans (c6 s hs)⟩
theorem MR_lenT {σ σ1 T : Sg} {h : Int} (m : MR σ T) (hw : WF T) (h1 : ∀ s, s < nS T → σ1 86 (5 + s) = h) (h0 : ∀ k, (k < 5 ∨ 10 ≤ k) → σ1 86 k = σ 86 k) : MR σ1 (lenT T h) := by
  obtain ⟨hv, hm⟩ := m
  obtain ⟨⟨e0, e1, e2, e3, e4⟩, eh, ew, ep⟩ := id hv
  obtain ⟨⟨⟨a1, a2⟩, ⟨a3, a4⟩, ⟨a5, a6⟩, ⟨a7, a8⟩, a9⟩, wh, ww, wp⟩ := id hw
  have hnP : ((nP T : Nat) : Int) = T 0 1 := Int.toNat_of_nonneg a3
  have hnS : ((nS T : Nat) : Int) = T 0 0 := Int.toNat_of_nonneg a1
  refine ⟨⟨⟨(h0 _ (by omega)).trans e0, (h0 _ (by omega)).trans e1, (h0 _ (by omega)).trans e2, (h0 _ (by omega)).trans e3, (h0 _ (by omega)).trans e4⟩, fun x hx => ?_, fun x y hx hy => (h0 _ (by omega)).trans (ew x y hx hy), fun q hq => ?_⟩, fun x y hx hy hxy => (h0 _ (by omega)).trans (hm.1 x y hx hy hxy), fun q x hq hx hx5 => (h0 _ (by omega)).trans (hm.2 q x hq hx hx5)⟩
  · have hx : (x : Int) < T 0 0 := hx
    exact h1 x (by omega)
  · obtain ⟨b1, b2, b3, b4, b5⟩ := ep q hq
    exact ⟨(h0 _ (by omega)).trans b1, (h0 _ (by omega)).trans b2, (h0 _ (by omega)).trans b3, (h0 _ (by omega)).trans b4, fun x hx => (h0 _ (by omega)).trans (b5 x hx)⟩
theorem MR_hidT {σ σ1 T : Sg} (m : MR σ T) (hw : WF T) (h1 : ∀ q, q < nP T → σ1 86 (36 + 9 * q) = 0) (h0 : ∀ k, (∀ q, q < nP T → k ≠ 36 + 9 * q) → σ1 86 k = σ 86 k) : MR σ1 (hidT T) := by
  obtain ⟨hv, hm⟩ := m
  obtain ⟨⟨e0, e1, e2, e3, e4⟩, eh, ew, ep⟩ := id hv
  obtain ⟨⟨⟨a1, a2⟩, ⟨a3, a4⟩, ⟨a5, a6⟩, ⟨a7, a8⟩, a9⟩, wh, ww, wp⟩ := id hw
  have hnP : ((nP T : Nat) : Int) = T 0 1 := Int.toNat_of_nonneg a3
  have hnS : ((nS T : Nat) : Int) = T 0 0 := Int.toNat_of_nonneg a1
  refine ⟨⟨⟨(h0 _ (fun q _ => by omega)).trans e0, (h0 _ (fun q _ => by omega)).trans e1, (h0 _ (fun q _ => by omega)).trans e2, (h0 _ (fun q _ => by omega)).trans e3, (h0 _ (fun q _ => by omega)).trans e4⟩, fun x hx => ?_, fun x y hx hy => ?_, fun q hq => ?_⟩, fun x y hx hy hxy => (h0 _ (fun q _ => by omega)).trans (hm.1 x y hx hy hxy), fun q x hq hx hx5 => ?_⟩
  · have hx : (x : Int) < T 0 0 := hx
    exact (h0 _ (fun q _ => by omega)).trans (eh x hx)
  · have hx : (x : Int) < T 0 0 := hx
    have hy : (y : Int) < T 0 0 := hy
    exact (h0 _ (fun q _ => by omega)).trans (ew x y hx hy)
  · have hq : (q : Int) < T 0 1 := hq
    obtain ⟨b1, b2, b3, b4, b5⟩ := ep q hq
    refine ⟨(h0 _ (fun q _ => by omega)).trans b1, h1 q (by omega), (h0 _ (fun q _ => by omega)).trans b3, (h0 _ (fun q _ => by omega)).trans b4, fun x hx => ?_⟩
    have hx : (x : Int) < T 0 0 := hx
    exact (h0 _ (fun q _ => by omega)).trans (b5 x hx)
  · exact (h0 _ (fun q _ => by omega)).trans (hm.2 q x hq hx hx5)
def lenF (T : Sg) : Nat → Nat → Int
  | 0, _ => -4
  | k + 1, h => if (fsB (lenT T h) gn1).1 = T 0 1 then (h : Int) else lenF T k (h + 1)
theorem lenF_s (T : Sg) (k h : Nat) : lenF T (k + 1) h = if (fsB (lenT T h) gn1).1 = T 0 1 then (h : Int) else lenF T k (h + 1) := rfl
theorem eq_length : EQ iX6_length iX7_length [] := by
  refine EQq (by decide) (fun T => if T 0 0 = 0 then -3 else lenF T 4 1) (fun σ T P K h hk => ?_) (fun σ T P K h hk => ?_)
  · obtain ⟨m, hw, hv, hx⟩ := h.p
    have h5 := hw.1.1
    have l19 : LEN 19 = 5 := rfl
    have f0 : σ 0 0 = T 0 0 := hv.2.1.1
    refine bX6_length ⟨tw0, ?_⟩
    rw [f0]
    refine ⟨fun q => ?_, fun q => ⟨tw18, s_become tw18 tw0 (by decide) (fun σ1 e1 hb => ?_)⟩⟩
    · have := hk σ Ex.rf
      rw [if_pos q] at this; exact this
    · rw [if_neg q] at hk
      have v1 := hb.tv tw18 hv hw
      have key : ∀ k g : Nat, g + k = 5 → 1 ≤ g → ∀ (T1 σ2 : Sg), TV σ2 18 T1 → T1 0 = T 0 → (∀ h', lenT T1 h' = lenT T h') → Ex LX σ σ2 → (∀ σ', Ex LX σ σ' → K (lenF T k g) σ') → wpL (wpCall 19) mX6_length K 26 [aR 45, aI (g : Nat)] [] σ2 := by
        intro k
        induction k with
        | zero => exact fun g hg g1 T1 σ2 v2 hT hL e q => bX6_length_26 ⟨fun _ => q σ2 e, fun z => by omega⟩
        | succ k ih =>
          intro g hg g1 T1 σ2 v2 hT hL e q
          have h5' : T1 0 0 ≤ 5 := by rw [hT]; exact h5.2
          refine bX6_length_26 ⟨fun z => by omega, fun _ => ⟨tw18, s_fill (by decide) (by decide) (fun σ3 e3 hz => ?_)⟩⟩
          have v3 : TV σ3 18 (lenT T g) := by
            have := TV_lenT (h := (g : Int)) v2 h5' e3 (fun k hk => hz k (by rw [l19]; exact hk))
            rw [hL] at this; exact this
          have e3' : Ex LX σ σ3 := e.tr e3 (fun _ h => h) (by simp)
          refine s_largest (d := 6) v3 (WF_lenT hw (by omega)) (fun σ4 e4 c => ?_)
          have e4' : Ex LX σ σ4 := e3'.tr (LX_mo18 e4) (fun _ h => h) (fun _ h => h)
          have f3 : σ4 0 3 = T 0 1 := by rw [e4' 0 (by decide)]; exact hv.2.1.2.1
          rw [f3]
          refine ⟨tw0, fun z => ?_, fun z => ?_⟩
          · have := q σ4 e4'
            rw [lenF_s, if_pos z] at this; exact this
          · rw [wr1 (by omega)]
            refine ih (g + 1) (by omega) (by omega) (lenT T g) σ4 (v3.ex e4 (fun i hi => by simp; omega)) (lenT_n (by decide)) (fun h' => lenT_T) e4' (fun σ' e' => ?_)
            have := q σ' e'
            rw [lenF_s, if_neg z] at this; exact this
      exact key 4 1 (by omega) (by omega) T σ1 v1 rfl (fun _ => rfl) (e1.mono (by simp)) hk
  · obtain ⟨m, hw, hv, hx⟩ := h.p
    have h5 := hw.1.1
    have hnS : ((nS T : Nat) : Int) = T 0 0 := Int.toNat_of_nonneg h5.1
    have l86 : LEN 86 = 107 := rfl
    have l89 : LEN 89 = 107 := rfl
    have f0 : σ 86 0 = T 0 0 := m.1.1.1
    refine bX7_length ⟨by omega, by omega, ?_⟩
    rw [f0]
    refine ⟨fun q => ?_, fun q => m_copies (d := 18) l86 l89 (by omega) (fun σ1 e1 hi1 => ?_)⟩
    · have := hk σ Ex.rf m
      rw [if_pos q] at this; exact this
    · rw [if_neg q] at hk
      have bk : ∀ (σ2 : Sg) (v : Int), Ex LM σ σ2 → (∀ j, j < 107 → σ2 89 j = σ 86 j) → (∀ σ', Ex LM σ σ' → MR σ' T → K v σ') → wpCall 19 iX7_copies [aR 89, aR 86] σ2 (fun r1 s1 => K v s1) := fun σ2 v e2 h89 g => m_back (d := 18) (σ0 := σ) l89 (by omega) h89 m hw (fun σ3 e3 hi3 m3 => g σ3 (e2.tr (l := LM) e3 (fun _ h => h) (by simp)) m3)
      have key : ∀ k g : Nat, g + k = 5 → 1 ≤ g → ∀ (T1 σ2 : Sg), MR σ2 T1 → WF T1 → T1 0 = T 0 → (∀ h', lenT T1 h' = lenT T h') → Ex LM σ σ2 → (∀ j, j < 107 → σ2 89 j = σ 86 j) → (∀ σ', Ex LM σ σ' → MR σ' T → K (lenF T k g) σ') → wpL (wpCall 19) mX7_length K 28 [aR 85, aI (-4), aI (g : Nat), aU] [] σ2 := by
        intro k
        induction k with
        | zero => exact fun g hg g1 T1 σ2 m2 w2 hT hL e h89 q => bX7_length_28 ⟨fun z => by omega, fun _ => bk σ2 (-4) e h89 q⟩
        | succ k ih =>
          intro g hg g1 T1 σ2 m2 w2 hT hL e h89 q
          have hnS1 : nS T1 = nS T := by unfold nS; rw [hT]
          refine bX7_length_28 ⟨fun _ => ⟨fun _ => ?_, fun z => absurd (by decide) z⟩, fun z => by omega⟩
          refine dwn (W := fun s => ∀ σ3, Ex [86] σ2 σ3 → (∀ x, x < s → σ3 86 (5 + x) = g) → (∀ k, (k < 5 ∨ 10 ≤ k) → σ3 86 k = σ2 86 k) → wpL (wpCall 19) mX7_length K 39 [aR 85, aU, aI (g : Nat), aI (s : Nat)] [] σ3) (nS T) (fun σ3 e3 c1 c0 => ?_) (fun s hs ih3 σ3 e3 c1 c0 => ?_) 0 (Nat.zero_le _) σ2 Ex.rf (fun x hx => by omega) (fun _ _ => rfl)
          · have g0 : σ3 86 0 = T 0 0 := by rw [c0 0 (by omega), ← hT]; exact m2.1.1.1
            refine bX7_length_39 ⟨by omega, by omega, fun z => by omega, fun _ => ?_⟩
            have m3 : MR σ3 (lenT T g) := by
              have := MR_lenT (h := (g : Int)) m2 w2 (fun s hs => c1 s (by omega)) c0
              rw [hL] at this; exact this
            have e3' : Ex LM σ σ3 := e.tr (l := LM) e3 (fun _ h => h) (by simp)
            refine m_mostOf (d := 3) m3 (WF_lenT hw (by omega)) (fun σ4 e4 hr4 m4 => ?_)
            have e4' : Ex LM σ σ4 := e3'.tr (LM_fi e4) (fun _ h => h) (fun _ h => h)
            have f1 : σ4 86 1 = T 0 1 := m4.1.1.2.1
            have h894 : ∀ j, j < 107 → σ4 89 j = σ 86 j := fun j hj => by rw [e4 89 (by simp), e3 89 (by simp)]; exact h89 j hj
            rw [f1, wr1 (by omega)]
            refine ⟨by omega, by omega, fun z => ?_, fun z => ?_⟩
            · have fin := bk σ4 (g : Nat) e4' h894 (fun σ' e' m' => by
                have := q σ' e' m'
                rw [lenF_s, if_pos z] at this; exact this)
              exact bX7_length_28 ⟨fun _ => ⟨fun z => by omega, fun _ => fin⟩, fun _ => fin⟩
            · exact ih (g + 1) (by omega) (by omega) (lenT T g) σ4 m4 (WF_lenT hw (by omega)) (lenT_n (by decide)) (fun h' => lenT_T) e4' h894 (fun σ' e' m' => by
                have := q σ' e' m'
                rw [lenF_s, if_neg z] at this; exact this)
          · have g0 : σ3 86 0 = T 0 0 := by rw [c0 0 (by omega), ← hT]; exact m2.1.1.1
            refine bX7_length_39 ⟨by omega, by omega, fun _ => ?_, fun z => by omega⟩
            rw [ixh (by omega), wr1 (by omega), Int.toNat_natCast]
            refine ⟨by omega, by omega, ih3 _ (e3.up (by simp)) (fun x hx => ?_) (fun k hk => ?_)⟩
            · by_cases z : x = s
              · rw [z, up_self]
              · rw [up_nk (by omega)]; exact c1 x (by omega)
            · rw [up_nk (by omega)]; exact c0 k hk
      exact key 4 1 (by omega) (by omega) T σ1 (m.ex e1 (by simp)) hw rfl (fun _ => rfl) (e1.mono (by simp)) hi1 hk
theorem eq_hiding : EQ iX6_hiding iX7_hiding [] := by
  refine EQq (by decide) (fun T => wr ((fsB T gn1).1 - (fsB (hidT T) gn1).1)) (fun σ T P K h hk => ?_) (fun σ T P K h hk => ?_)
  · obtain ⟨m, hw, hv, hx⟩ := h.p
    have h8 := hw.1.2.1
    have l22 : LEN 22 = 8 := rfl
    refine bX6_hiding ⟨tw18, s_become tw18 tw0 (by decide) (fun σ1 e1 hb => ⟨tw18, s_fill (by decide) (by decide) (fun σ2 e2 hz => ?_)⟩)⟩
    have v2 : TV σ2 18 (hidT T) := TV_hidT (hb.tv tw18 hv hw) h8.2 e2 (fun k hk => hz k (by rw [l22]; exact hk))
    have e2' : Ex LX σ σ2 := e1.tr (l := LX) e2 (by simp) (by simp)
    refine s_largest (d := 6) (h.x e2').p.2.2.1 hw (fun σ3 e3 c3 => ?_)
    have e3' : Ex LX σ σ3 := e2'.tr (LX_mo e3) (fun _ h => h) (fun _ h => h)
    refine s_largest (d := 6) (v2.ex e3 (fun i hi => by simp; omega)) (WF_hidT hw) (fun σ4 e4 c4 => hk σ4 (e3'.tr (LX_mo18 e4) (fun _ h => h) (fun _ h => h)))
  · obtain ⟨m, hw, hv, hx⟩ := h.p
    have h8 := hw.1.2.1
    have hnP : ((nP T : Nat) : Int) = T 0 1 := Int.toNat_of_nonneg h8.1
    have l86 : LEN 86 = 107 := rfl
    have l89 : LEN 89 = 107 := rfl
    refine bX7_hiding (m_mostOf (d := 3) m hw (fun σ1 e1 hr1 m1 => m_copies (d := 18) l86 l89 (by omega) (fun σ2 e2 hi2 => ?_)))
    have m2 := m1.ex e2 (by simp)
    have e2' : Ex LM σ σ2 := (LM_fi e1).tr e2 (fun _ h => h) (by simp)
    refine dwn (W := fun p => ∀ σ3, Ex [86] σ2 σ3 → (∀ x, x < p → σ3 86 (36 + 9 * x) = 0) → (∀ k, (∀ x, x < nP T → k ≠ 36 + 9 * x) → σ3 86 k = σ2 86 k) → wpL (wpCall 19) mX7_hiding K 18 [aR 85, aI (fsB T gn1).1, aI (p : Nat)] [] σ3) (nP T) (fun σ3 e3 c1 c0 => ?_) (fun p hp ih3 σ3 e3 c1 c0 => ?_) 0 (Nat.zero_le _) σ2 Ex.rf (fun x hx => by omega) (fun _ _ => rfl)
    · have g0 : σ3 86 1 = T 0 1 := by rw [c0 1 (fun x _ => by omega)]; exact m2.1.1.2.1
      have m3 := MR_hidT m2 hw c1 c0
      have e3' : Ex LM σ σ3 := e2'.tr (l := LM) e3 (fun _ h => h) (by simp)
      refine bX7_hiding_18 ⟨by omega, by omega, fun z => by omega, fun _ => m_mostOf (d := 3) m3 (WF_hidT hw) (fun σ4 e4 hr4 m4 => m_back (d := 18) (σ0 := σ1) l89 (by omega) (fun j hj => ?_) m1 hw (fun σ5 e5 hi5 m5 => hk σ5 ((e3'.tr (LM_fi e4) (fun _ h => h) (fun _ h => h)).tr e5 (fun _ h => h) (by simp)) m5))⟩
      rw [e4 89 (by simp), e3 89 (by simp)]; exact hi2 j hj
    · have g0 : σ3 86 1 = T 0 1 := by rw [c0 1 (fun x _ => by omega)]; exact m2.1.1.2.1
      refine bX7_hiding_18 ⟨by omega, by omega, fun _ => bX7_puts ?_, fun z => by omega⟩
      rw [ixp1 (by omega), wr1 (by omega), Int.toNat_natCast]
      refine ⟨by omega, by omega, ih3 _ (e3.up (by simp)) (fun x hx => ?_) (fun k hk => ?_)⟩
      · by_cases z : x = p
        · rw [z, up_self]
        · rw [up_nk (by omega)]; exact c1 x (by omega)
      · rw [up_nk (hk p hp)]; exact c0 k hk
