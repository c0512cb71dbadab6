/-! THE MODEL'S MOVES -/
def MR (σ : Sg) (T : Sg) : Prop := MV σ 86 T ∧ MX σ 86 T
theorem MR.ex {σ σ' : Sg} {T : Sg} {l : List Nat} (h : MR σ T) (he : Ex l σ σ') (hl : 86 ∉ l) : MR σ' T := ⟨h.1.ex (fun k => he 86 hl k), h.2.ex (fun k => he 86 hl k)⟩
theorem m_goes {d p : Nat} {v : Int} {σ : Sg} {K : Kt} (hp : p < 8) (hk : K 0 (up σ 86 (38 + 9 * p) v)) : wpCall (d + 2) iX7_goes [aR 85, aI (p : Nat), aI v] σ K := by
  have l86 : LEN 86 = 107 := rfl
  refine bX7_goes (bX7_puts ?_)
  rw [ixp3 (by omega), Int.toNat_natCast]
  exact ⟨by omega, by omega, hk⟩
theorem lv_id {s : Int} (h : s ≠ 9) : lv s = s := by unfold lv; rw [if_neg h]
theorem MR.go {σ T : Sg} {p : Nat} {v : Int} (h : MR σ T) (hw : WF T) (hp : (p : Int) < T 0 1) : MR (up σ 86 (38 + 9 * p) (lv v)) (up T 7 p v) := MV_tLive (p := p) (v := v) h.1 h.2 hw hp
theorem up7_0 {T : Sg} {p : Nat} {v : Int} {k : Nat} : up T 7 p v 0 k = T 0 k := up_ne (by omega)
theorem m_go {d p : Nat} {v : Int} {σ T : Sg} {K : Kt} (h : MR σ T) (hw : WF T) (hp : (p : Int) < T 0 1) (hk : ∀ σ', Ex [86] σ σ' → MR σ' (up T 7 p v) → K 0 σ') : wpCall (d + 2) iX7_goes [aR 85, aI (p : Nat), aI (lv v)] σ K := by
  have h8 := hw.1.2.1
  exact m_goes (by omega) (hk _ (Ex.rf.up (by simp)) (h.go hw hp))
theorem MR.craft {σ T : Sg} {p : Nat} {v : Int} (h : MR σ T) (hw : WF T) (hp : (p : Int) < T 0 1) : MR (up σ 86 (35 + 9 * p) v) (up T 3 p v) := by
  obtain ⟨hv, hm⟩ := h
  obtain ⟨⟨e0, e1, e2, e3, e4⟩, eh, ew, ep⟩ := id hv
  obtain ⟨⟨⟨a1, a2⟩, ⟨a3, a4⟩, ⟨a5, a6⟩, ⟨a7, a8⟩, a9⟩, wh, ww, wp⟩ := id hw
  have hnP : ((nP T : Nat) : Int) = T 0 1 := Int.toNat_of_nonneg a3
  have hnS : ((nS T : Nat) : Int) = T 0 0 := Int.toNat_of_nonneg a1
  refine ⟨⟨⟨by rw [up_nk (by omega)]; exact e0, by rw [up_nk (by omega)]; exact e1, by rw [up_nk (by omega)]; exact e2, by rw [up_nk (by omega)]; exact e3, by rw [up_nk (by omega)]; exact e4⟩, fun x hx => ?_, fun x y hx hy => ?_, fun q hq => ?_⟩, fun x y hx hy hxy => ?_, fun q x hq hx hx5 => ?_⟩
  · have hx : (x : Int) < T 0 0 := hx
    rw [up_nk (by omega)]; exact eh x hx
  · have hx : (x : Int) < T 0 0 := hx
    have hy : (y : Int) < T 0 0 := hy
    rw [up_nk (by omega)]; exact ew x y hx hy
  · have hq : (q : Int) < T 0 1 := hq
    obtain ⟨b1, b2, b3, b4, b5⟩ := ep q hq
    refine ⟨?_, by rw [up_nk (by omega)]; exact b2, by rw [up_nk (by omega)]; exact b3, by rw [up_nk (by omega)]; exact b4, fun x hx => ?_⟩
    · by_cases e : q = p
      · rw [e, up_self, up_self]
      · rw [up_nk (by omega), up_nk e]; exact b1
    · have hx : (x : Int) < T 0 0 := hx
      rw [up_nk (by omega)]; exact b5 x hx
  · have hxy : T 0 0 ≤ x ∨ T 0 0 ≤ y := hxy
    rw [up_nk (by omega)]; exact hm.1 x y hx hy hxy
  · have hq : (q : Int) < T 0 1 := hq
    have hx : T 0 0 ≤ x := hx
    rw [up_nk (by omega)]; exact hm.2 q x hq hx hx5
theorem MR.hide {σ T : Sg} {p : Nat} {v : Int} (h : MR σ T) (hw : WF T) (hp : (p : Int) < T 0 1) : MR (up σ 86 (36 + 9 * p) v) (up T 4 p v) := by
  obtain ⟨hv, hm⟩ := h
  obtain ⟨⟨e0, e1, e2, e3, e4⟩, eh, ew, ep⟩ := id hv
  obtain ⟨⟨⟨a1, a2⟩, ⟨a3, a4⟩, ⟨a5, a6⟩, ⟨a7, a8⟩, a9⟩, wh, ww, wp⟩ := id hw
  have hnP : ((nP T : Nat) : Int) = T 0 1 := Int.toNat_of_nonneg a3
  have hnS : ((nS T : Nat) : Int) = T 0 0 := Int.toNat_of_nonneg a1
  refine ⟨⟨⟨by rw [up_nk (by omega)]; exact e0, by rw [up_nk (by omega)]; exact e1, by rw [up_nk (by omega)]; exact e2, by rw [up_nk (by omega)]; exact e3, by rw [up_nk (by omega)]; exact e4⟩, fun x hx => ?_, fun x y hx hy => ?_, fun q hq => ?_⟩, fun x y hx hy hxy => ?_, fun q x hq hx hx5 => ?_⟩
  · have hx : (x : Int) < T 0 0 := hx
    rw [up_nk (by omega)]; exact eh x hx
  · have hx : (x : Int) < T 0 0 := hx
    have hy : (y : Int) < T 0 0 := hy
    rw [up_nk (by omega)]; exact ew x y hx hy
  · have hq : (q : Int) < T 0 1 := hq
    obtain ⟨b1, b2, b3, b4, b5⟩ := ep q hq
    refine ⟨by rw [up_nk (by omega)]; exact b1, ?_, by rw [up_nk (by omega)]; exact b3, by rw [up_nk (by omega)]; exact b4, fun x hx => ?_⟩
    · by_cases e : q = p
      · rw [e, up_self, up_self]
      · rw [up_nk (by omega), up_nk e]; exact b2
    · have hx : (x : Int) < T 0 0 := hx
      rw [up_nk (by omega)]; exact b5 x hx
  · have hxy : T 0 0 ≤ x ∨ T 0 0 ≤ y := hxy
    rw [up_nk (by omega)]; exact hm.1 x y hx hy hxy
  · have hq : (q : Int) < T 0 1 := hq
    have hx : T 0 0 ≤ x := hx
    rw [up_nk (by omega)]; exact hm.2 q x hq hx hx5
theorem m_gos {d p s : Nat} {σ T : Sg} {K : Kt} (h : MR σ T) (hw : WF T) (hp : (p : Int) < T 0 1) (hs : s < 9) (hk : ∀ σ', Ex [86] σ σ' → MR σ' (up T 7 p (s : Int)) → K 0 σ') : wpCall (d + 2) iX7_goes [aR 85, aI (p : Nat), aI (s : Nat)] σ K := by
  have := m_go (d := d) (v := (s : Int)) h hw hp hk
  rw [lv_id (by omega)] at this
  exact this
theorem wrd1 {p : Nat} (h : p < 100000) : wr ((p : Int) + (-1)) = (p : Int) - 1 := by unfold wr; omega
theorem m_does119 {d w s : Nat} {σ T : Sg} {K : Kt} (h : MR σ T) (hw : WF T) (hwP : (w : Int) < T 0 1) (hs : (s : Int) < T 0 0) (hc : T 1 s ≤ crowd T s) (hk : ∀ σ', Ex [86] σ σ' → MR σ' (chM T w s) → K 0 σ') : wpL (wpCall (d + 2)) mX7_does K 119 [aR 85, aU, aI (w : Nat), aU, aI (s : Nat), aI (lv (T 7 w)), aI (-4), aI (wr (T 0 1 - 1))] [] σ := by
  have hv := h.1
  obtain ⟨⟨e0, e1, e2, e3, e4⟩, eh, ew, ep⟩ := id hv
  obtain ⟨⟨⟨a1, a2⟩, ⟨a3, a4⟩, ⟨a5, a6⟩, ⟨a7, a8⟩, a9⟩, wh, ww, wp⟩ := id hw
  have hnP : ((nP T : Nat) : Int) = T 0 1 := Int.toNat_of_nonneg a3
  have hnS : ((nS T : Nat) : Int) = T 0 0 := Int.toNat_of_nonneg a1
  have w7 := (wp w hwP).2.2.2.1
  have key : ∀ p : Nat, p ≤ nP T → wpL (wpCall (d + 2)) mX7_does K 119 [aR 85, aU, aI (w : Nat), aU, aI (s : Nat), aI (lv (T 7 w)), aI (fstI (fun p => !decide (p = w) && decide (T 7 p = s)) (-4) (nP T - p) p), aI ((p : Int) - 1)] [] σ := by
    intro p
    induction p with
    | zero =>
      intro hp
      refine bX7_does_119 ⟨fun _ => ?_, fun z => absurd (by decide) z⟩
      refine m_gos (d := d) h hw hwP (by omega) (fun σ1 he1 h1 => ?_)
      have hch : fstI (fun p => !decide (p = w) && decide (T 7 p = s)) (-4) (nP T - 0) 0 = chP T w s := rfl
      rw [hch]
      refine ⟨fun z => ?_, fun z => ?_⟩
      · refine hk σ1 he1 ?_
        unfold chM
        rw [if_neg (by omega)]; exact h1
      · have hl := fstI_lt (f := fun p => !decide (p = w) && decide (T 7 p = s)) (z := -4) (by omega) (nP T) 0 (by have : chP T w s = fstI (fun p => !decide (p = w) && decide (T 7 p = s)) (-4) (nP T) 0 := rfl; omega)
        have hcP : chP T w s = fstI (fun p => !decide (p = w) && decide (T 7 p = s)) (-4) (nP T) 0 := rfl
        rw [← hcP] at hl
        obtain ⟨o, ho⟩ : ∃ o : Nat, chP T w s = o := ⟨(chP T w s).toNat, by omega⟩
        rw [ho]
        refine m_go (d := d) h1 (hw.home w (by omega)) (by rw [up7_0]; omega) (fun σ2 he2 h2 => hk σ2 (he1.tr he2 (fun _ h => h) (fun _ h => h)) ?_)
        unfold chM
        rw [if_pos ⟨hc, by omega⟩, ho, Int.toNat_natCast]
        exact h2
    | succ p ih =>
      intro hp
      have ih := ih (by omega)
      rw [show nP T - p = (nP T - (p + 1)) + 1 by omega, fstI_s] at ih
      rw [show ((p + 1 : Nat) : Int) - 1 = (p : Int) by push_cast; omega]
      refine bX7_does_119 ⟨fun z => by omega, fun _ => ?_⟩
      rw [wrd1 (by omega)]
      refine ⟨fun q => ?_, fun q => m_at hv (by omega) (by omega) ⟨fun q2 => ?_, fun q2 => ?_⟩⟩
      · have q : p = w := by omega
        rw [show (!decide (p = w) && decide (T 7 p = (s : Int))) = false by simp [q]] at ih
        exact ih
      · rw [lv_eq (by omega)] at q2
        rw [show (!decide (p = w) && decide (T 7 p = (s : Int))) = true by simp [q2]; omega] at ih
        exact ih
      · rw [lv_eq (by omega)] at q2
        rw [show (!decide (p = w) && decide (T 7 p = (s : Int))) = false by simp [q2]] at ih
        exact ih
  have := key (nP T) (Nat.le_refl _)
  rw [Nat.sub_self] at this
  rw [wr_id ⟨by omega, by omega⟩, ← hnP]
  exact this
theorem m_does {d w o s : Nat} {k : Int} {σ T : Sg} {K : Kt} (h : MR σ T) (hw : WF T) (hok : okM T k w o s) (hk : ∀ σ', Ex [86] σ σ' → MR σ' (doM T k w o s) → K 0 σ') : wpCall (d + 3) iX7_does [aR 85, aI k, aI (w : Nat), aI (o : Nat), aI (s : Nat)] σ K := by
  have hv := h.1
  obtain ⟨⟨e0, e1, e2, e3, e4⟩, eh, ew, ep⟩ := id hv
  obtain ⟨⟨⟨a1, a2⟩, ⟨a3, a4⟩, ⟨a5, a6⟩, ⟨a7, a8⟩, a9⟩, wh, ww, wp⟩ := id hw
  have hnP : ((nP T : Nat) : Int) = T 0 1 := Int.toNat_of_nonneg a3
  have hnS : ((nS T : Nat) : Int) = T 0 0 := Int.toNat_of_nonneg a1
  have l86 : LEN 86 = 107 := rfl
  obtain ⟨k1, k2, k3⟩ := hok
  have w7 := (wp w k1).2.2.2.1
  rw [doM_def] at hk
  have body : ∀ z, (k ≠ 0 → z = lv (T 7 w)) → wpL (wpCall (d + 2)) mX7_does K 15 [aR 85, aI k, aI (w : Nat), aI (o : Nat), aI (s : Nat), aU, aU, aU] [aI z] σ := by
    intro z hz
    refine bX7_does_15 ⟨fun q => ?_, fun q => ?_, fun q => ?_, fun q => ?_, fun q => ?_, fun q => ?_, fun q => ?_, fun q => ?_⟩
    · rw [if_pos q] at hk
      exact m_gos (d := d) h hw k1 (by have := k3 (by omega); omega) hk
    · rw [if_neg (by omega), if_pos q] at hk
      have ko := k2 (by omega)
      have o7 := (wp o ko).2.2.2.1
      rw [hz (by omega)]
      refine m_at (d := d + 1) hv ko (by omega) (m_go (d := d) h hw k1 (fun σ1 he1 h1 => m_go (d := d) h1 (hw.home w (by omega)) (by rw [up7_0]; exact ko) (fun σ2 he2 h2 => hk σ2 (he1.tr he2 (fun _ h => h) (fun _ h => h)) h2)))
    · rw [if_neg (by omega), if_neg (by omega), if_pos q] at hk
      have ks := k3 (by omega)
      have h4 := wh s ks
      refine m_manyIn (d := d) hv hw (by omega) ?_
      rw [ixh (by omega), Int.toNat_natCast, eh s ks, e1, hz (by omega)]
      refine ⟨by omega, by omega, fun z2 => ?_, fun z2 => ⟨by omega, by omega, m_does119 h hw k1 ks (by omega) hk⟩⟩
      refine m_gos (d := d) h hw k1 (by omega) (fun σ1 he1 h1 => ⟨fun _ => hk σ1 he1 ?_, fun z => absurd (by decide) z⟩)
      unfold chM
      rw [if_neg (by omega)]; exact h1
    · rw [if_neg (by omega), if_neg (by omega), if_neg (by omega), if_pos q] at hk
      have ks := k3 (by omega)
      refine m_manyIn (d := d) hv hw (by omega) ?_
      rw [ixh (by omega), Int.toNat_natCast, eh s ks]
      refine ⟨by omega, by omega, fun z2 => ?_, fun z2 => ?_⟩
      · rw [if_pos z2] at hk
        exact m_gos (d := d) h hw k1 (by have := k3 (by omega); omega) hk
      · rw [if_neg z2] at hk
        exact hk σ Ex.rf h
    · rw [if_neg (by omega), if_neg (by omega), if_neg (by omega), if_neg (by omega), if_pos q] at hk
      have ko := k2 (by omega)
      have ks := k3 (by omega)
      exact m_gos (d := d) h hw k1 (by omega) (fun σ1 he1 h1 => m_gos (d := d) h1 (hw.home w (by omega)) (by rw [up7_0]; exact ko) (by omega) (fun σ2 he2 h2 => hk σ2 (he1.tr he2 (fun _ h => h) (fun _ h => h)) h2))
    · rw [if_neg (by omega), if_neg (by omega), if_neg (by omega), if_neg (by omega), if_neg (by omega), if_pos q] at hk
      exact m_go (d := d) (v := 9) h hw k1 hk
    · rw [if_neg (by omega), if_neg (by omega), if_neg (by omega), if_neg (by omega), if_neg (by omega), if_neg (by omega), if_pos q] at hk
      have ks := k3 (by omega)
      refine m_gos (d := d) h hw k1 (by omega) (fun σ1 he1 h1 => m_cr (d := d + 1) h1.1 (by rw [up7_0]; exact k1) (by rw [up7_0]; omega) (bX7_puts ?_))
      rw [ixp1 (by omega), Int.toNat_natCast, up_ne (show (3 : Nat) ≠ 7 by omega)]
      exact ⟨by omega, by omega, hk _ (he1.up (by simp)) (h1.hide (hw.home w (by have := k3 (by omega); omega)) (by rw [up7_0]; exact k1))⟩
    · rw [if_neg (by omega), if_neg (by omega), if_neg (by omega), if_neg (by omega), if_neg (by omega), if_neg (by omega), if_neg (by omega)] at hk
      exact hk σ Ex.rf h
  refine bX7_does ⟨fun q => body _ (fun z => absurd q z), fun q => m_at (d := d + 1) hv k1 (by omega) (body _ (fun _ => rfl))⟩
