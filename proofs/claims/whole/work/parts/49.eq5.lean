/-! WHAT CHANGES THE TOWN -/
def NT2 (l : List Nat) : Bool := l.all fun a => decide (a ≤ 8 ∨ (17 ≤ a ∧ a < 45) ∨ (46 ≤ a ∧ a < 61) ∨ a = 85 ∨ a = 86 ∨ (88 ≤ a ∧ a < 92) ∨ 100 ≤ a)
theorem NT2_no {l : List Nat} (h : NT2 l = true) {a : Nat} (ha : (9 ≤ a ∧ a ≤ 16) ∨ a = 45 ∨ (61 ≤ a ∧ a < 85) ∨ a = 87 ∨ (92 ≤ a ∧ a < 100)) : a ∉ l := fun q => by
  have := List.all_eq_true.mp h a q
  simp only [decide_eq_true_eq] at this
  omega
theorem Inv.set {σ σ' T T' P : Sg} {l : List Nat} (h : Inv σ T P) (hw' : WF T') (v' : TV σ' 0 T') (x' : CX σ' 0) (m' : MR σ' T') (e : Ex l σ σ') (hl : NT2 l = true) (h14 : σ' 85 14 = σ 85 14) : Inv σ' T' P := by
  obtain ⟨m, ⟨hw, hv, hx⟩, hp, hs⟩ := h
  refine ⟨m', ⟨hw', v', x'⟩, ?_, fun d hd => ?_⟩
  · rw [h14, e 45 (NT2_no hl (by omega)) 7]
    refine hp.imp id (fun z => ⟨z.1, z.2.1, ?_⟩)
    obtain ⟨h1, h2, h3, h4⟩ := z.2.2
    exact ⟨h1, h2.ex e (fun i hi => NT2_no hl (by omega)), ⟨h3.1.ex (fun k => e 87 (NT2_no hl (by omega)) k), h3.2.ex (fun k => e 87 (NT2_no hl (by omega)) k)⟩, h4.ex e (NT2_no hl (by omega))⟩
  · exact (hs d hd).cg (fun k => e _ (NT2_no hl (by omega)) k) (fun k => e _ (NT2_no hl (by omega)) k) (fun k => e _ (NT2_no hl (by omega)) k) (fun a h1 h2 _ => e a (NT2_no hl (by omega)) d) (fun i _ => e 95 (NT2_no hl (by omega)) _)
theorem law_set {σ T T' P : Sg} {kx km : Nat} {n : Int} (h : Inv σ T P) (hw' : WF T') (hv' : TV (up σ 0 kx n) 0 T') (hm' : ∀ σ1, MR σ1 T → MR (up σ1 86 km n) T') : Inv (up (up σ 0 kx n) 86 km n) T' P := by
  have e0 : Ex [0] σ (up σ 0 kx n) := Ex.rf.up (by simp)
  refine h.set (l := [0, 86]) hw' (hv'.ex (l := [86]) (Ex.rf.up (by simp)) (fun i hi => by simp; omega)) ?_ (hm' _ (h.1.ex e0 (by simp))) ((Ex.rf.up (by simp)).up (by simp)) (by decide) (by rw [up_ne (by omega), up_ne (by omega)])
  intro a ha
  rw [up_ne (by omega), up_ne (by omega)]; exact h.p.2.2.2 a ha
theorem eq_law {x n : Int} : EQ iX6_law iX7_law [aI x, aI n] := by
  intro σ T P h
  obtain ⟨m, hw, hv, hx⟩ := h.p
  have l86 : LEN 86 = 107 := rfl
  obtain ⟨ht, ⟨e0, e3, e9, e10, e11⟩, -⟩ := id hv
  obtain ⟨c0, c1, c2, c3, c4⟩ := m.1.1
  have mn : ∀ {n : Int}, ∀ (σ1 : Sg), MR σ1 T → MR (up σ1 86 2 n) (tLaw T n (T 0 3) (T 0 4)) := fun {n} σ1 m1 => by
    have := MV_tLaw (x := n) (y := T 0 3) (z := T 0 4) m1.1 m1.2 hw
    rw [up_eq (σ := up σ1 86 2 n) (by rw [up_nk (by omega)]; exact m1.1.1.2.2.2.1), up_eq (σ := up σ1 86 2 n) (by rw [up_nk (by omega)]; exact m1.1.1.2.2.2.2)] at this
    exact this
  have mn3 : ∀ {n : Int}, ∀ (σ1 : Sg), MR σ1 T → MR (up σ1 86 3 n) (tLaw T (T 0 2) n (T 0 4)) := fun {n} σ1 m1 => by
    have := MV_tLaw (x := T 0 2) (y := n) (z := T 0 4) m1.1 m1.2 hw
    rw [up_eq (σ := σ1) (a := 86) (k := 2) m1.1.1.2.2.1, up_eq (σ := up σ1 86 3 n) (by rw [up_nk (by omega)]; exact m1.1.1.2.2.2.2)] at this
    exact this
  have mn4 : ∀ {n : Int}, ∀ (σ1 : Sg), MR σ1 T → MR (up σ1 86 4 n) (tLaw T (T 0 2) (T 0 3) n) := fun {n} σ1 m1 => by
    have := MV_tLaw (x := T 0 2) (y := T 0 3) (z := n) m1.1 m1.2 hw
    rw [up_eq (σ := σ1) (a := 86) (k := 2) m1.1.1.2.2.1, up_eq (σ := σ1) (a := 86) (k := 3) m1.1.1.2.2.2.1] at this
    exact this
  have w9 := hw.1.2.2
  have dead : ∀ (q : ¬ (x = 0 ∧ (1 ≤ n ∧ n ≤ 3)) ∧ ¬ (x = 1 ∧ (0 ≤ n ∧ n ≤ 9)) ∧ ¬ (x = 2 ∧ (0 ≤ n ∧ n ≤ 255))), wpCall 20 iX7_law [aR 85, aI x, aI n] σ (fun r' σ2 => -1 = r' ∧ ∃ T' P', Inv σ2 T' P') := fun q => by
    refine bX7_law ⟨fun z => m_isIn (fun g => absurd ⟨z, g⟩ q.1) (fun g => br_t2 rfl ⟨rfl, T, P, h⟩), fun z => ⟨fun z1 => m_isIn (fun g => absurd ⟨z1, g⟩ q.2.1) (fun g => br_t2 rfl ⟨rfl, T, P, h⟩), fun z1 => ⟨fun z2 => m_isIn (fun g => absurd ⟨z2, g⟩ q.2.2) (fun g => br_t2 rfl (br_t2 rfl ⟨rfl, T, P, h⟩)), fun z2 => br_t2 rfl ⟨rfl, T, P, h⟩⟩⟩⟩
  refine bX6_law ⟨fun z => x_isEach (fun g => br_f2 (by decide) ⟨tw0, tw0, ?_⟩) (fun g => br_t2 rfl (dead (by omega))), fun z => x_isNear (fun g => br_f2 (by decide) ⟨tw0, tw0, ?_⟩) (fun g => br_t2 rfl (dead (by omega))), fun z => ⟨fun q => dead (by omega), fun q => ⟨fun q2 => dead (by omega), fun q2 => ⟨tw0, tw0, ?_⟩⟩⟩, fun z => dead (by omega)⟩
  · subst z
    refine bX7_law ⟨fun _ => m_isIn (fun _ => br_f2 (by decide) ?_) (fun q => absurd g q), fun z => absurd rfl z⟩
    rw [show wr (2 + 0) = 2 by decide]
    refine ⟨by omega, by omega, by omega, by omega, ?_, _, P, law_set h (WF_tLaw hw g ⟨w9.2.1.1, w9.2.1.2⟩ w9.2.2) ?_ mn⟩
    · show σ 0 9 = up σ 0 9 n 86 2
      rw [up_ne (by omega), e9]; exact c2.symm
    · have := TV_tLaw (a := n) (b := T 0 3) (c := T 0 4) hv
      rw [up_eq (σ := up σ 0 9 n) (by rw [up_nk (by omega)]; exact e10), up_eq (σ := up σ 0 9 n) (by rw [up_nk (by omega)]; exact e11)] at this
      exact this
  · subst z
    refine bX7_law ⟨fun z => absurd z (by decide), fun _ => ⟨fun _ => m_isIn (fun _ => br_f2 (by decide) ?_) (fun q => absurd g q), fun z => absurd rfl z⟩⟩
    rw [show wr (2 + 1) = 3 by decide]
    refine ⟨by omega, by omega, by omega, by omega, ?_, _, P, law_set h (WF_tLaw hw ⟨w9.1.1, w9.1.2⟩ g w9.2.2) ?_ mn3⟩
    · show σ 0 10 = up σ 0 10 n 86 3
      rw [up_ne (by omega), e10]; exact c3.symm
    · have := TV_tLaw (a := T 0 2) (b := n) (c := T 0 4) hv
      rw [up_eq (σ := σ) (a := 0) (k := 9) e9, up_eq (σ := up σ 0 10 n) (by rw [up_nk (by omega)]; exact e11)] at this
      exact this
  · subst z
    refine bX7_law ⟨fun z => absurd z (by decide), fun _ => ⟨fun z => absurd z (by decide), fun _ => ⟨fun _ => m_isIn (fun _ => br_f2 (by decide) (br_f2 (by decide) ?_)) (fun g => absurd (by omega) g), fun z => absurd rfl z⟩⟩⟩
    rw [show wr (2 + 2) = 4 by decide]
    refine ⟨by omega, by omega, by omega, by omega, ?_, _, P, law_set h (WF_tLaw hw ⟨w9.1.1, w9.1.2⟩ ⟨w9.2.1.1, w9.2.1.2⟩ ⟨by omega, by omega⟩) ?_ mn4⟩
    · show σ 0 11 = up σ 0 11 n 86 4
      rw [up_ne (by omega), e11]; exact c4.symm
    · have := TV_tLaw (a := T 0 2) (b := T 0 3) (c := n) hv
      rw [up_eq (σ := σ) (a := 0) (k := 9) e9, up_eq (σ := σ) (a := 0) (k := 10) e10] at this
      exact this
theorem y_toldOf {d : Nat} {v : Int} {σ : Sg} {K : Kt} (hv : v = 9 ∨ (0 ≤ v ∧ v < 9)) (hk : K v σ) : wpCall (d + 1) iX7_toldOf [aI (lv v)] σ K := by
  unfold lv
  by_cases q : v = 9
  · rw [if_pos q]; exact bX7_toldOf ⟨fun _ => kq hk q.symm, fun z => absurd (by decide) z⟩
  · rw [if_neg q]; exact bX7_toldOf ⟨fun z => by omega, fun _ => hk⟩
theorem eq_lives {x s : Int} : EQ iX6_lives iX7_lives [aI x, aI s] := by
  intro σ T P h
  obtain ⟨m, hw, hv, hx⟩ := h.p
  have h5 := hw.1.1
  have h8 := hw.1.2.1
  have l86 : LEN 86 = 107 := rfl
  have l7 : LEN 7 = 8 := rfl
  refine bX6_lives ⟨tw0, x_hasP h (fun g => br_f2 (by decide) ⟨tw0, s_hasStreetOrNowhere hv (fun g2 => br_f2 (by decide) ?_) (fun g2 => br_t2 rfl ?_)⟩) (fun g => br_t2 rfl ?_)⟩
  · obtain ⟨p, rfl, hp⟩ := inP_n g
    rw [Int.toNat_natCast, (hv.2.2.2.2 p hp).2.2.2.1]
    refine ⟨tw0, by omega, by omega, tw0, by omega, by omega, ?_⟩
    have w7 := home_ok hw hp
    have e1 : Ex [7] σ (up σ 7 p s) := Ex.rf.up (by simp)
    have m1 : MR (up σ 7 p s) T := m.ex e1 (by simp)
    have fin : Inv (up (up σ 7 p s) 86 (38 + 9 * p) (lv s)) (up T 7 p s) P := by
      refine h.set (l := [7, 86]) (hw.home p g2) (TV.ex (TV.home (t := 0) hv p s) (l := [86]) (Ex.rf.up (by simp)) (fun i hi => by simp; omega)) ?_ (m1.go hw hp) ((Ex.rf.up (by simp)).up (by simp)) (by decide) (by rw [up_ne (by omega), up_ne (by omega)])
      intro a ha
      rw [up_ne (by omega), up_ne (by omega)]; exact hx a ha
    have goA : s = 9 → wpCall 19 iX7_puts [aR 85, aI (p : Nat), aI 3, aI (-4)] (up σ 7 p s) (fun r' σ2 => T 7 p = T 7 p ∧ ∃ T' P', Inv σ2 T' P') := fun q => bX7_puts (by
      rw [ixp3 (by omega), Int.toNat_natCast]
      rw [show lv s = -4 by rw [q]; rfl] at fin
      exact ⟨by omega, by omega, rfl, _, P, fin⟩)
    have goB : s ≠ 9 → wpCall 19 iX7_puts [aR 85, aI (p : Nat), aI 3, aI s] (up σ 7 p s) (fun r' σ2 => T 7 p = T 7 p ∧ ∃ T' P', Inv σ2 T' P') := fun q => bX7_puts (by
      rw [ixp3 (by omega), Int.toNat_natCast]
      rw [lv_id q] at fin
      exact ⟨by omega, by omega, rfl, _, P, fin⟩)
    refine bX7_lives (m_isOne (d := 17) m1.1 hw (fun _ => br_f2 (by decide) ⟨fun q => m_at m1.1 hp h8.2 (y_toldOf (by omega) ⟨fun _ => goA q, fun z => absurd q z⟩), fun q => m_isStreet (d := 17) m1.1 hw (fun _ => br_f2 (by decide) (m_at m1.1 hp h8.2 (y_toldOf (by omega) ⟨fun z => absurd z q, fun _ => goB q⟩))) (fun z => absurd (g2.resolve_left q) z)⟩) (fun z => absurd g z))
  · refine bX7_lives (m_isOne (d := 17) m.1 hw (fun _ => br_f2 (by decide) ⟨fun q => absurd (Or.inl q) g2, fun q => m_isStreet (d := 17) m.1 hw (fun z => absurd (Or.inr z) g2) (fun z => br_t2 rfl ⟨rfl, T, P, h⟩)⟩) (fun z => absurd g z))
  · exact bX7_lives (m_isOne (d := 17) m.1 hw (fun z => absurd z g) (fun z => br_t2 rfl ⟨rfl, T, P, h⟩))
theorem eq_image : EQ iX6_image iX7_image [] := by
  intro σ T P h
  obtain ⟨m, hw, hv, hx⟩ := h.p
  have l86 : LEN 86 = 107 := rfl
  have l87 : LEN 87 = 107 := rfl
  have tw9 : TW 9 := rfl
  refine bX6_image ⟨tw9, s_become tw9 tw0 (by decide) (fun σ1 e1 hb => ⟨by decide, tw0, ?_⟩)⟩
  have e1' : Ex [9, 10, 11, 12, 13, 14, 15, 16, 45] σ (up σ1 45 7 1) := (e1.mono (by simp)).up (by simp)
  have m1 : MR (up σ1 45 7 1) T := m.ex e1' (by decide)
  refine bX7_image (m_copies (d := 18) l86 l87 (by omega) (fun σ2 e2 hi2 => ⟨by decide, by omega, by omega, ?_, T, T, ?_⟩))
  · rw [e1' 0 (by decide), up_ne (by omega), e2 86 (by decide), m1.1.1.2.1]; exact hv.2.1.2.1
  · have eA : Ex [9, 10, 11, 12, 13, 14, 15, 16, 45, 85, 87] σ (up σ2 85 14 1) := (e1'.tr (l := [9, 10, 11, 12, 13, 14, 15, 16, 45, 85, 87]) e2 (by simp) (by simp)).up (by simp)
    have o2 : ∀ a, a ≠ 87 → a ≠ 85 → ∀ k, up σ2 85 14 1 a k = up σ1 45 7 1 a k := fun a h1 h2 k => by rw [up_ne h2, e2 a (by simpa using h1)]
    refine ⟨(m1.ex e2 (by decide)).ex (l := [85]) (Ex.rf.up (by simp)) (by decide), ⟨hw, hv.ex eA (fun i hi => by simp; omega), hx.ex eA (by decide)⟩, Or.inr ⟨?_, up_self, hw, ?_, ⟨?_, ?_⟩, ?_⟩, fun d hd => ?_⟩
    · rw [o2 45 (by omega) (by omega), up_self]
    · exact TV.ex (TV.ex (TV.ex (hb.tv tw9 hv hw) (l := [45]) (Ex.rf.up (by simp)) (fun i hi => by simp; omega)) e2 (fun i hi => by simp; omega)) (l := [85]) (Ex.rf.up (by simp)) (fun i hi => by simp; omega)
    · exact (m1.1.cp hw hi2).ex (fun k => up_ne (by omega))
    · exact (m1.2.cp hw hi2).ex (fun k => up_ne (by omega))
    · intro a ha
      rw [o2 _ (by omega) (by omega), up_ne (by omega)]; exact CX_bec hb hx a ha
    · have := h.2.2.2 d hd
      exact this.cg (fun k => eA _ (by simp; omega) k) (fun k => eA _ (by simp; omega) k) (fun k => eA _ (by simp; omega) k) (fun a h1 h2 _ => eA a (by simp; omega) d) (fun i _ => eA 95 (by simp) _)
theorem eq_restore : EQ iX6_restore iX7_restore [] := by
  intro σ T P h
  obtain ⟨m, hw, hv, hx⟩ := h.p
  have l86 : LEN 86 = 107 := rfl
  have l87 : LEN 87 = 107 := rfl
  have tw9 : TW 9 := rfl
  rcases h.2.2.1 with ⟨q1, q2⟩ | ⟨q1, q2, wP, vP, mP, xP⟩
  · refine bX6_restore ?_
    rw [q1]
    refine ⟨fun _ => bX7_restore ?_, fun z => absurd rfl z⟩
    rw [q2]
    exact ⟨fun _ => ⟨rfl, T, P, h⟩, fun z => absurd rfl z⟩
  · refine bX6_restore ?_
    rw [q1]
    refine ⟨fun z => absurd z (by decide), fun _ => ⟨tw0, s_become tw0 tw9 (by decide) (fun σ1 e1 hb => ⟨tw0, bX7_restore ?_⟩)⟩⟩
    rw [e1 85 (by simp), q2]
    refine ⟨fun z => absurd z (by decide), fun _ => m_copies (d := 18) l87 l86 (by omega) (fun σ2 e2 hi2 => ⟨by omega, by omega, ?_, P, P, ?_⟩)⟩
    · have v1 := hb.tv tw0 vP wP
      have a1 : σ1 0 3 = P 0 1 := v1.2.1.2.1
      rw [a1, hi2 1 (by omega), e1 87 (by simp)]; exact mP.1.1.2.1.symm
    · have v1 := hb.tv tw0 vP wP
      have mP1 : MV σ1 87 P ∧ MX σ1 87 P := ⟨mP.1.ex (fun k => e1 87 (by simp) k), mP.2.ex (fun k => e1 87 (by simp) k)⟩
      refine h.set (l := [0, 1, 2, 3, 4, 5, 6, 7, 86]) wP (v1.ex e2 (fun i hi => by simp; omega)) ((CX_bec hb xP).ex e2 (by simp)) ⟨mP1.1.cp wP hi2, mP1.2.cp wP hi2⟩ (e1.tr e2 (by simp) (by simp)) (by decide) ?_
      rw [e2 85 (by simp), e1 85 (by simp)]
theorem s_attemptC {d v t w o s : Nat} {σ T : Sg} {k : Int} {K : Kt} (hm : MO σ v k w o s) (hv : TV σ t T) (hw : WF T) (hx : CX σ t) (ht36 : t ≠ 36) (hok : okM T k w o s) (hk : ∀ σ', Ex L36 σ σ' → TV σ' 36 (doM T k w o s) → CX σ' 36 → K 0 σ') : wpCall (d + 4) iX5_attempt [aR 55, aR t, aR v] σ K := by
  have hr := mve_r hm.1
  refine bX5_attempt ⟨tw36, s_become tw36 hv.1 (Ne.symm ht36) (fun σ1 he1 hb => ⟨hm.1, s_doIn (hm.ex he1 (by simp; omega)) (hb.tv tw36 hv hw) hw hok (fun σ2 he2 hv2 => hk σ2 (he1.tr he2 (by simp) (by simp)) hv2 ((CX_bec hb hx).ex he2 (by simp)))⟩)⟩
theorem s_isOpenC {d v t w o s : Nat} {σ T : Sg} {k : Int} {K : Kt} (hm : MO σ v k w o s) (hv : TV σ t T) (hw : WF T) (hx : CX σ t) (ht36 : t ≠ 36) (hok : okM T k w o s) (hk : ∀ σ', Ex L36 σ σ' → TV σ' 36 (doM T k w o s) → CX σ' 36 → K (b2i (opn T k w o s)) σ') : wpCall (d + 6) iX5_isOpen [aR 55, aR t, aR v] σ K := by
  have hr := mve_r hm.1
  refine bX5_isOpen (s_attemptC hm hv hw hx ht36 hok (fun σ1 he hv1 hx1 => ?_))
  have hm1 := hm.ex he (by simp; omega)
  have hvt := hv.no36 ht36 he
  have hP : T 0 1 = doM T k w o s 0 1 := by rw [doM_P]
  have hwd := hw.doM hok
  rw [hm1.2.1]
  have tl : ∀ σ2, Ex [36 + 8] σ1 σ2 → Ex L36 σ σ2 ∧ TV σ2 36 (doM T k w o s) ∧ CX σ2 36 := fun σ2 he2 => ⟨he.tr he2 (by simp) (by simp), hv1.ex he2 (fun i hi => by simp; omega), hx1.ex he2 (by simp)⟩
  have kk : ∀ σ2, Ex L36 σ σ2 ∧ TV σ2 36 (doM T k w o s) ∧ CX σ2 36 → K (b2i (opn T k w o s)) σ2 := fun σ2 z => hk σ2 z.1 z.2.1 z.2.2
  refine ⟨hm1.1, fun q => ⟨tw36, ?_⟩, fun q => ⟨tw36, ?_⟩⟩
  · have e : (!decide (k = 6)) = false := by simp [q]
    refine s_isWantedSince (a := false) hv1 hwd hvt hw hP (fun z => br_f2 (by decide) ⟨tw36, s_isLawful hv1 hwd (fun y σ2 he2 => br_f2 (by decide) ⟨by decide, kq (kk σ2 (tl σ2 he2)) (by simp [opn, e, z, y]; rfl)⟩) (fun y σ2 he2 => br_t2 rfl ⟨by decide, kq (kk σ2 (tl σ2 he2)) (by simp [opn, y]; rfl)⟩)⟩) (fun z => br_t2 rfl ⟨by decide, kq (hk σ1 he hv1 hx1) (by simp [opn, e, z]; rfl)⟩)
  · have e : (!decide (k = 6)) = true := by simp [q]
    refine s_isWantedSince (a := true) hv1 hwd hvt hw hP (fun z => br_f2 (by decide) ⟨tw36, s_isLawful hv1 hwd (fun y σ2 he2 => br_f2 (by decide) ⟨by decide, kq (kk σ2 (tl σ2 he2)) (by simp [opn, e, z, y]; rfl)⟩) (fun y σ2 he2 => br_t2 rfl ⟨by decide, kq (kk σ2 (tl σ2 he2)) (by simp [opn, y]; rfl)⟩)⟩) (fun z => br_t2 rfl ⟨by decide, kq (hk σ1 he hv1 hx1) (by simp [opn, e, z]; rfl)⟩)
theorem eq_move {x : Int} : EQ iX6_move iX7_move [aI x] := by
  intro σ T P h
  obtain ⟨m, hw, hv, hx⟩ := h.p
  have := l92
  refine bX6_move (x_refDoing h ⟨fun q => ?_, fun q => ?_⟩)
  · obtain ⟨d, rfl, hd, h2, ht⟩ := refV_0 q
    obtain ⟨w, o, s, ew, eo, es, -, -, hm⟩ := SH_mv (h.2.2.2 d hd) hd h2
    rw [ew, eo, es] at ht
    have hok := thr_ok ht
    have hwd := hw.doM hok
    have hP : doM T (σ 96 d) w o s 0 = T 0 := doM_P
    rw [Int.toNat_natCast]
    refine ⟨by omega, by omega, (shf_d hd).1, s_isOpenC hm hv hw hx (by decide) hok (fun σ1 e1 v1 x1 => g2 (fun qo => ⟨tw36, ?_⟩) (fun qo => ?_))⟩
    · have h1 := h.x (e1.mono (by simp))
      refine s_movedSince v1 hwd h1.p.2.2.1 (by rw [hP]) ⟨tw0, s_become tw0 tw36 (by decide) (fun σ2 e2 hb => ?_)⟩
      have e2' : Ex [36, 37, 38, 39, 40, 41, 42, 43, 44, 0, 1, 2, 3, 4, 5, 6, 7] σ σ2 := e1.tr e2 (by simp) (by simp)
      have m2 : MR σ2 T := m.ex e2' (by decide)
      have v2 := hb.tv tw0 v1 hwd
      have x2 := CX_bec hb x1
      have c92 : ∀ a, 92 ≤ a → a < 100 → ∀ k, σ2 a k = σ a k := fun a h1 h2 k => e2' a (by simp; omega) k
      refine keep14 (by decide) (bX7_move (y_wrongMove m2 hw ⟨fun _ => ?_, fun z => absurd (by rw [refV_cg c92]; exact q) z⟩))
      rw [Int.toNat_natCast, c92 96 (by omega) (by omega), c92 97 (by omega) (by omega), c92 98 (by omega) (by omega), c92 99 (by omega) (by omega), ew, eo, es]
      refine ⟨by omega, by omega, by omega, by omega, by omega, by omega, by omega, by omega, m_tries (d := 13) m2 hw hok (fun σ3 e3 hf3 h90 m3 h24 h25 h26 => ?_)⟩
      rw [h24, h25]
      unfold opn at qo
      rw [Bool.and_eq_true] at qo
      rw [qo.1, qo.2]
      refine ⟨fun z => absurd z (by decide), fun _ => ⟨fun z => absurd z (by decide), fun _ h14 => ⟨?_, _, P, h.set (l := [36, 37, 38, 39, 40, 41, 42, 43, 44, 0, 1, 2, 3, 4, 5, 6, 7, 85, 86, 90, 91]) hwd (v2.ex e3 (fun i hi => by simp; omega)) (x2.ex e3 (by simp)) m3 (e2'.tr e3 (by simp) (by simp)) (by decide) (by rw [h14]; exact e2' 85 (by simp) 14)⟩⟩⟩
      rw [h26]
      unfold nP
      rw [hP]
    · have h1 := h.x (e1.mono (by simp))
      have m1 := h1.1
      have c92 : ∀ a, 92 ≤ a → a < 100 → ∀ k, σ1 a k = σ a k := fun a h1 h2 k => e1 a (by simp; omega) k
      refine keep14 (by decide) (bX7_move (y_wrongMove m1 hw ⟨fun _ => ?_, fun z => absurd (by rw [refV_cg c92]; exact q) z⟩))
      rw [Int.toNat_natCast, c92 96 (by omega) (by omega), c92 97 (by omega) (by omega), c92 98 (by omega) (by omega), c92 99 (by omega) (by omega), ew, eo, es]
      refine ⟨by omega, by omega, by omega, by omega, by omega, by omega, by omega, by omega, m_tries (d := 13) m1 hw hok (fun σ3 e3 hf3 h90 m3 h24 h25 h26 => ?_)⟩
      have pb : wpCall 19 iX7_putsBack [aR 85] σ3 (fun r3 s3 => s3 85 14 = σ1 85 14 → -3 = -3 ∧ ∃ T' P', Inv s3 T' P') := m_putsBack (d := 17) h90 m1 hw (fun σ4 e4 hi4 m4 h14 => ⟨rfl, T, P, h1.m ((e3.mono (l := LM) (by simp)).tr e4 (fun _ h => h) (by simp)) m4 h14⟩)
      rw [h24, h25]
      unfold opn at qo
      refine g2 (fun z1 => g2 (fun z2 => ?_) (fun z2 => pb)) (fun z1 => pb)
      rw [z1, z2] at qo; exact absurd qo (by decide)
  · exact bX7_move (y_wrongMove m hw ⟨fun z => absurd z q, fun _ => ⟨rfl, T, P, h⟩⟩)
theorem byt_cg {b b' : Nat → Int} {n : Nat} (h : ∀ i, i < n → b i = b' i) : byt b n = byt b' n := by
  funext p
  unfold byt
  by_cases q : p < n
  · rw [if_pos q, if_pos q, h p q]
  · rw [if_neg q, if_neg q]
theorem eq_town {x : Int} : EQ iX6_town iX7_town [aI x] := by
  intro σ T P h
  obtain ⟨m, hw, hv, hx⟩ := h.p
  have := l92
  refine bX6_town (x_refBytes h ⟨fun q => ?_, fun q => bX7_town (y_wrongRow (Or.inl rfl) (by
    rw [if_pos rfl]
    exact ⟨fun z => absurd z q, fun _ => ⟨rfl, T, P, h⟩⟩))⟩)
  obtain ⟨d, rfl, hd, h2, h3⟩ := refB_0 q
  obtain ⟨n, en, hn, e2, e3, -, f, fb⟩ := SH_rw (h.2.2.2 d hd) h2
  obtain ⟨b, hb⟩ : ∃ b : Nat → Int, b = fun i => σ 95 (100 * d + i) := ⟨_, rfl⟩
  have br : BR b n := fun i hi => by rw [hb]; exact fb h3 i (by omega)
  refine ⟨tw18, s_become tw18 tw0 (by decide) (fun σ1 e1 hbc => ⟨by omega, by omega, ?_⟩)⟩
  rw [Int.toNat_natCast]
  have eb : byt (σ1 (61 + 3 * d + 2)) n = byt b n := byt_cg (fun i hi => by rw [e1 _ (by simp; omega), hb]; exact f i (by omega))
  have mod : ∀ (σ2 : Sg) (r : Int) (T2 : Sg), Ex [18, 19, 20, 21, 22, 23, 24, 25, 46, 0, 1, 2, 3, 4, 5, 6, 7] σ σ2 → TV σ2 0 T2 → CX σ2 0 → WF T2 → (∀ q, pas1 (byt b n) n 101 0 0 = (false, q) → r = -1000 - (q : Nat) ∧ T2 = T) → (∀ m q T', pas1 (byt b n) n 101 0 0 = (true, m) → pas2 (byt b n) m 0 T = ((false, q), T') → r = -2000 - (q : Nat) ∧ T2 = T) → (∀ m q T', pas1 (byt b n) n 101 0 0 = (true, m) → pas2 (byt b n) m 0 T = ((true, q), T') → r = (m : Nat) ∧ T2 = T') → wpCall 20 iX7_town [aR 85, aI (d : Nat)] σ2 (fun r' σ2 => r = r' ∧ ∃ T' P', Inv σ2 T' P') := by
    intro σ2 r T2 e2 v2 x2 w2 k1 k2 k3
    have m2 : MR σ2 T := m.ex e2 (by decide)
    have c92 : ∀ a, 92 ≤ a → a < 100 → ∀ k, σ2 a k = σ a k := fun a h1 h2 k => e2 a (by simp; omega) k
    refine keep14 (by decide) (bX7_town (y_wrongRow (Or.inl rfl) ?_))
    rw [if_pos rfl, refB_cg c92, q]
    refine ⟨fun _ => ⟨by omega, by omega, ?_⟩, fun z => absurd rfl z⟩
    rw [Int.toNat_natCast, up_ne (show (94 : Nat) ≠ 85 by omega), c92 94 (by omega) (by omega), en, show wr (100 * (d : Int)) = ((100 * d : Nat) : Int) by unfold wr; push_cast; omega]
    have eA : Ex [85] σ2 (up (up (up σ2 85 17 ((100 * d : Nat) : Int)) 85 18 (n : Int)) 85 16 0) := ((Ex.rf.up (by simp)).up (by simp)).up (by simp)
    have mA := m2.ex eA (by simp)
    have fin : ∀ (σ' : Sg) (T' : Sg), T2 = T' → Ex [85, 86, 88, 100] (up (up (up σ2 85 17 ((100 * d : Nat) : Int)) 85 18 (n : Int)) 85 16 0) σ' → MV σ' 86 T' ∧ MX σ' 86 T' → σ' 85 14 = σ2 85 14 → ∃ T' P', Inv σ' T' P' := fun σ' T' eT e' m' h14 => by
      subst eT
      have eB : Ex [85, 86, 88, 100] σ2 σ' := eA.tr e' (by simp) (fun _ h => h)
      refine ⟨_, P, h.set (l := [18, 19, 20, 21, 22, 23, 24, 25, 46, 0, 1, 2, 3, 4, 5, 6, 7, 85, 86, 88, 100]) w2 (v2.ex eB (fun i hi => by simp; omega)) (x2.ex eB (by simp)) m' (e2.tr eB (by simp) (by simp)) (by decide) (by rw [h14]; exact e2 85 (by simp) 14)⟩
    refine m_town38 (d := 16) (b := b) (n := n) hw mA.1 mA.2 ⟨100 * d, ⟨by omega, hn, by omega, br⟩, ?_, ?_, up_self, fun i hi => ?_⟩ (fun q hp σ' e' m' h14 => ?_) (fun m q T' hp hp2 σ' e' m' h14 => ?_) (fun m q T' hp hp2 w' σ' e' m' h14 => ?_)
    · rw [up_nk (by omega), up_nk (by omega), up_self]
    · rw [up_nk (by omega), up_self]
    · rw [up_ne (by omega), up_ne (by omega), up_ne (by omega), c92 95 (by omega) (by omega), hb]
    · exact ⟨(k1 q hp).1, fin σ' T (k1 q hp).2 e' m' h14⟩
    · exact ⟨(k2 m q T' hp hp2).1, fin σ' T (k2 m q T' hp hp2).2 e' m' h14⟩
    · exact ⟨(k3 m q T' hp hp2).1, fin σ' T' (k3 m q T' hp hp2).2 e' m' h14⟩
  refine s_readInto (hbc.tv tw18 hv hw) hw (CX_bec hbc hx) (shf_d hd).1 (by rw [e1 _ (by simp; omega)]; exact e3) hn (by
    intro i hi
    rw [e1 _ (by simp; omega), f i (by omega)]; exact fb h3 i (by omega)) (fun q hp q100 σ2 e2 => ?_) (fun M q T' hp hp2 q100 σ2 e2 => ?_) (fun M q T' hp hp2 w' σ2 e2 v2 x2 => ?_)
  · rw [eb] at hp
    have e2' : Ex [18, 19, 20, 21, 22, 23, 24, 25, 46, 0, 1, 2, 3, 4, 5, 6, 7] σ σ2 := e1.tr e2 (by simp) (by simp)
    have e2x : Ex LX σ σ2 := e1.tr e2 (by simp) (by simp)
    refine br_f2 (by omega) (mod σ2 _ T e2' (h.x e2x).p.2.2.1 (h.x e2x).p.2.2.2 hw (fun q' z => ?_) (fun M q' T' z _ => ?_) (fun M q' T' z _ => ?_))
    · rw [hp] at z; cases z; exact ⟨rfl, rfl⟩
    · rw [hp] at z; cases z
    · rw [hp] at z; cases z
  · rw [eb] at hp hp2
    have e2' : Ex [18, 19, 20, 21, 22, 23, 24, 25, 46, 0, 1, 2, 3, 4, 5, 6, 7] σ σ2 := e1.tr e2 (by simp) (by simp)
    have e2x : Ex LX σ σ2 := e1.tr e2 (by simp) (by simp)
    refine br_f2 (by omega) (mod σ2 _ T e2' (h.x e2x).p.2.2.1 (h.x e2x).p.2.2.2 hw (fun q' z => ?_) (fun M' q' T' z z2 => ?_) (fun M' q' T' z z2 => ?_))
    · rw [hp] at z; cases z
    · rw [hp] at z; cases z; rw [hp2] at z2; cases z2; exact ⟨rfl, rfl⟩
    · rw [hp] at z; cases z; rw [hp2] at z2; cases z2
  · rw [eb] at hp hp2
    have hM := (pas1_chn _ _ _ _ hp).1
    have e2' : Ex [18, 19, 20, 21, 22, 23, 24, 25, 46, 0, 1, 2, 3, 4, 5, 6, 7] σ σ2 := e1.tr e2 (by simp) (by simp)
    refine br_t2 (by omega) ⟨tw0, s_become tw0 tw18 (by decide) (fun σ3 e3 hb3 => ?_)⟩
    refine mod σ3 _ T' (e2'.tr e3 (fun _ h => h) (by simp)) (hb3.tv tw0 v2 w') (CX_bec hb3 x2) w' (fun q' z => ?_) (fun M' q' T'' z z2 => ?_) (fun M' q' T'' z z2 => ?_)
    · rw [hp] at z; cases z
    · rw [hp] at z; cases z; rw [hp2] at z2; cases z2
    · rw [hp] at z; cases z; rw [hp2] at z2; cases z2; exact ⟨rfl, rfl⟩
