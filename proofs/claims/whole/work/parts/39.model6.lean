/-! THE MODEL'S SEARCH -/
def RFr (σ σ' : Sg) : Prop := ∀ k, (∀ q, q < 8 → k ≠ 38 + 9 * q) → σ' 86 k = σ 86 k
theorem RFr.rf {σ : Sg} : RFr σ σ := fun _ _ => rfl
theorem RFr.tr {σ σ1 σ2 : Sg} (h1 : RFr σ σ1) (h2 : RFr σ1 σ2) : RFr σ σ2 := fun k hk => (h2 k hk).trans (h1 k hk)
theorem RFr.ex {l : List Nat} {σ σ1 σ2 : Sg} (h1 : RFr σ σ1) (h2 : Ex l σ1 σ2) (hl : 86 ∉ l) : RFr σ σ2 := fun k hk => (h2 86 hl k).trans (h1 k hk)
theorem RFr.up {σ σ1 : Sg} {p : Nat} {v : Int} (h : RFr σ σ1) (hp : p < 8) : RFr σ (up σ1 86 (38 + 9 * p) v) := fun k hk => by
  rw [up_nk (hk p hp)]
  exact h k hk
theorem WF_hom {T : Sg} {h : Nat → Int} (hw : WF T) (hh : ∀ q : Nat, (q : Int) < T 0 1 → h q = 9 ∨ (0 ≤ h q ∧ h q < T 0 0)) : WF (hom T h) := by
  obtain ⟨hn, wh, ww, wp⟩ := hw
  have u0 : hom T h 0 = T 0 := homf (by omega)
  refine ⟨?_, fun s hs => ?_, fun a b ha hb => ?_, fun q hq => ?_⟩
  · unfold WFn; rw [u0]; exact hn
  · rw [u0] at hs; rw [homf (by omega)]; exact wh s hs
  · rw [u0] at ha hb; unfold WFw; rw [homf (by omega)]; exact ww a b ha hb
  · rw [u0] at hq
    obtain ⟨c3, c4, c5, c7, c6⟩ := wp q hq
    unfold WFp
    rw [u0, homf (f := 3) (by omega), homf (f := 4) (by omega), homf (f := 5) (by omega), homf (f := 6) (by omega), hom7]
    exact ⟨c3, c4, c5, hh q hq, c6⟩
theorem MR_hom {σ σ1 T : Sg} {h : Nat → Int} (m : MR σ T) (hw : WF T) (hr : RFr σ σ1) (hh : ∀ q : Nat, (q : Int) < T 0 1 → σ1 86 (38 + 9 * q) = lv (h q)) : MR σ1 (hom T h) := by
  obtain ⟨hv, hm⟩ := m
  obtain ⟨⟨e0, e1, e2, e3, e4⟩, eh, ew, ep⟩ := id hv
  obtain ⟨⟨⟨a1, a2⟩, ⟨a3, a4⟩, ⟨a5, a6⟩, ⟨a7, a8⟩, a9⟩, wh, ww, wp⟩ := id hw
  have hnP : ((nP T : Nat) : Int) = T 0 1 := Int.toNat_of_nonneg a3
  have hnS : ((nS T : Nat) : Int) = T 0 0 := Int.toNat_of_nonneg a1
  have u0 : hom T h 0 = T 0 := homf (by omega)
  refine ⟨⟨⟨?_, ?_, ?_, ?_, ?_⟩, fun x hx => ?_, fun x y hx hy => ?_, fun q hq => ?_⟩, fun x y hx hy hxy => ?_, fun q x hq hx hx5 => ?_⟩
  · rw [u0, hr 0 (fun q hq => by omega)]; exact e0
  · rw [u0, hr 1 (fun q hq => by omega)]; exact e1
  · rw [u0, hr 2 (fun q hq => by omega)]; exact e2
  · rw [u0, hr 3 (fun q hq => by omega)]; exact e3
  · rw [u0, hr 4 (fun q hq => by omega)]; exact e4
  · rw [u0] at hx
    rw [hr _ (fun q hq => by omega), homf (by omega)]; exact eh x hx
  · rw [u0] at hx hy
    rw [hr _ (fun q hq => by omega), homf (by omega)]; exact ew x y hx hy
  · rw [u0] at hq
    obtain ⟨b1, b2, b3, b4, b5⟩ := ep q hq
    unfold MVp
    rw [u0, homf (f := 3) (by omega), homf (f := 4) (by omega), homf (f := 5) (by omega), homf (f := 6) (by omega), hom7]
    refine ⟨by rw [hr _ (fun q hq => by omega)]; exact b1, by rw [hr _ (fun q hq => by omega)]; exact b2, by rw [hr _ (fun q hq => by omega)]; exact b3, hh q hq, fun x hx => ?_⟩
    rw [hr _ (fun q hq => by omega)]; exact b5 x hx
  · rw [u0] at hxy
    rw [hr _ (fun q hq => by omega)]; exact hm.1 x y hx hy hxy
  · rw [u0] at hq hx
    rw [hr _ (fun q hq => by omega)]; exact hm.2 q x hq hx hx5
theorem hu_hu {h : Nat → Int} {p : Nat} {v w : Int} : hu (hu h p v) p w = hu h p w := by
  funext q
  by_cases e : q = p
  · subst e; rw [hu_s, hu_s]
  · rw [hu_n e, hu_n e, hu_n e]
theorem MR_hu {σ T : Sg} {h : Nat → Int} {p : Nat} {v w : Int} (m : MR σ (hom T (hu h p v))) (hw : WF (hom T (hu h p v))) (hp : (p : Int) < T 0 1) : MR (up σ 86 (38 + 9 * p) (lv w)) (hom T (hu h p w)) := by
  have := m.go (v := w) hw (p := p) hp
  rw [hom_up, hu_hu] at this
  exact this
theorem WF_hu {T : Sg} {h : Nat → Int} {p : Nat} {v w : Int} (hw : WF (hom T (hu h p v))) (hx : w = 9 ∨ (0 ≤ w ∧ w < T 0 0)) : WF (hom T (hu h p w)) := by
  have := hw.home p (v := w) hx
  rw [hom_up, hu_hu] at this
  exact this
theorem m_wishesFrom {d p : Nat} {h : Nat → Int} {σ T : Sg} {K : Kt} (hv : MV σ 86 (hom T h)) (hw : WF T) (hp : p ≤ nP T) (hk : K (hope (fun q => gmx T (gnW T) q (nS T)) (nP T - p) p) σ) : wpCall (d + 2) iX7_wishesFrom [aR 85, aI (p : Nat)] σ K := by
  have l86 : LEN 86 = 107 := rfl
  have f0 : σ 86 0 = T 0 0 := hv.1.1
  have f1 : σ 86 1 = T 0 1 := hv.1.2.1
  obtain ⟨⟨⟨a1, a2⟩, ⟨a3, a4⟩, ⟨a5, a6⟩, ⟨a7, a8⟩, a9⟩, wh, ww, wp⟩ := id hw
  have hnP : ((nP T : Nat) : Int) = T 0 1 := Int.toNat_of_nonneg a3
  have hnS : ((nS T : Nat) : Int) = T 0 0 := Int.toNat_of_nonneg a1
  have hgr : ∀ q s, 0 ≤ gnW T q s ∧ gnW T q s ≤ 99 := fun q s => by
    unfold gnW
    split
    · next z => exact (wp q z.1).2.2.2.2 s z.2
    · omega
  have hgm := fun q => gmx_r (T := T) (hgr q) (nS T)
  have key : ∀ j k : Nat, k + j = nP T → ∀ S : Int, 0 ≤ S ∧ S ≤ 99 * k → K (S + hope (fun q => gmx T (gnW T) q (nS T)) j k) σ → wpL (wpCall (d + 1)) mX7_wishesFrom K 4 [aR 85, aU, aI S, aI (k : Nat), aU, aU] [] σ := by
    intro j
    induction j with
    | zero => exact fun k hk S hS g => bX7_wishesFrom_4 ⟨by omega, by omega, fun z => absurd z (by omega), fun _ => kq g (by show _ = S + 0; omega)⟩
    | succ j ih =>
      intro k hk S hS g
      have hkT : (k : Int) < T 0 1 := by omega
      refine bX7_wishesFrom_4 ⟨by omega, by omega, fun _ => ?_, fun z => absurd z (by omega)⟩
      refine dwn (W := fun s => wpL (wpCall (d + 1)) mX7_wishesFrom K 20 [aR 85, aU, aI S, aI (k : Nat), aI (gmx T (gnW T) k s), aI (s : Nat)] [] σ) (nS T) ?_ (fun s hs ih2 => ?_) 0 (Nat.zero_le _)
      · refine bX7_wishesFrom_20 ⟨by omega, by omega, fun z => absurd z (by omega), fun _ => ?_⟩
        have hb := (hgm k).1
        rw [wr1 (by omega), wr_id (x := S + gmx T (gnW T) k (nS T)) ⟨by omega, by omega⟩]
        refine ih (k + 1) (by omega) _ (by push_cast; omega) (kq g ?_)
        show _ = S + (gmx T (gnW T) k (nS T) + hope _ j (k + 1))
        omega
      · have eg : σ 86 (35 + 9 * k + (4 + s)) = gnW T k s := by
          unfold gnW
          rw [if_pos ⟨hkT, by omega⟩, show 35 + 9 * k + (4 + s) = 39 + 9 * k + s by omega]
          exact (hv.2.2.2 k hkT).2.2.2.2 s (show (s : Int) < T 0 0 by omega)
        have em : gmx T (gnW T) k (s + 1) = if gmx T (gnW T) k s < gnW T k s then gnW T k s else gmx T (gnW T) k s := rfl
        refine bX7_wishesFrom_20 ⟨by omega, by omega, fun _ => ?_, fun z => absurd z (by omega)⟩
        rw [wr4 (by omega), wr1 (by omega)]
        refine m_get (d := d) (by omega) (by omega) ?_
        rw [eg]
        refine ⟨fun z => m_get (d := d) (by omega) (by omega) ?_, fun z => ?_⟩
        · rw [eg]
          rw [em, if_pos z] at ih2
          exact ih2
        · rw [em, if_neg z] at ih2
          exact ih2
  exact bX7_wishesFrom (key (nP T - p) p (by omega) 0 (by omega) (kq hk (by omega)))
def BEm (σ : Sg) (y : Int) (T : Sg) (b : Int × (Nat → Int)) : Prop := (if y = 0 then σ 85 29 else σ 85 28) = b.1 ∧ (0 ≤ b.1 → ∀ q : Nat, (q : Int) < T 0 1 → σ 101 q = lv (b.2 q))
theorem BEm.ex {σ σ' : Sg} {y : Int} {T : Sg} {b : Int × (Nat → Int)} (h : BEm σ y T b) (he : Ex [86] σ σ') : BEm σ' y T b := by
  unfold BEm
  rw [he 85 (by simp), he 85 (by simp)]
  exact ⟨h.1, fun z q hq => (he 101 (by simp) q).trans (h.2 z q hq)⟩
abbrev LLi : List Nat := [85, 86, 101]
theorem m_leaf {d : Nat} {h : Nat → Int} {mn sm sum y : Int} {b : Int × (Nat → Int)} {σ T : Sg} {K : Kt} (hw : WF T) (hy : y = 0 ∨ y = 1) (m : MR σ (hom T h)) (hsel : (if y = 0 then sm else mn) = sum) (hlt : b.1 < sum) (hk : ∀ σ', Ex LLi σ σ' → RFr σ σ' → MR σ' (hom T h) → BEm σ' y T (if b.1 < sum then (sum, h) else b) → K 0 σ') : wpL (wpCall (d + 1)) mX7_livings K 48 [aR 85, aI ((nP T : Nat) : Int), aU, aU, aU, aI 0] [] (up (up σ 85 28 mn) 85 29 sm) := by
  have h8 := hw.1.2.1
  have hnP : ((nP T : Nat) : Int) = T 0 1 := Int.toNat_of_nonneg h8.1
  have l101 : LEN 101 = 8 := rfl
  have eA : Ex LLi σ (up (up σ 85 28 mn) 85 29 sm) := (Ex.rf.up (by simp)).up (by simp)
  have mA : MR (up (up σ 85 28 mn) 85 29 sm) (hom T h) := m.ex (l := [85]) ((Ex.rf.up (by simp)).up (by simp)) (by simp)
  have rA : RFr σ (up (up σ 85 28 mn) 85 29 sm) := (RFr.rf (σ := σ)).ex (l := [85]) ((Ex.rf.up (by simp)).up (by simp)) (by simp)
  refine dwn (W := fun j => ∀ σ2, Ex [101] (up (up σ 85 28 mn) 85 29 sm) σ2 → (∀ q, q < j → σ2 101 q = lv (h q)) → wpL (wpCall (d + 1)) mX7_livings K 48 [aR 85, aI ((nP T : Nat) : Int), aU, aU, aU, aI (j : Nat)] [] σ2) (nP T) (fun σ2 he2 hq2 => ?_) (fun j hj ih σ2 he2 hq2 => ?_) 0 (Nat.zero_le _) _ Ex.rf (fun q hq => by omega)
  · refine bX7_livings_48 ⟨fun z => by omega, fun _ => hk σ2 (eA.tr (l := LLi) he2 (fun _ h => h) (by simp)) (rA.ex he2 (by simp)) (mA.ex he2 (by simp)) ?_⟩
    rw [if_pos hlt]
    unfold BEm
    rw [he2 85 (by simp), he2 85 (by simp), up_self, up_nk (by omega), up_self]
    exact ⟨hsel, fun _ q hq => hq2 q (by omega)⟩
  · have m2 := mA.ex he2 (by simp)
    refine bX7_livings_48 ⟨fun _ => ?_, fun z => absurd hj (by omega)⟩
    refine m_at (d := d) m2.1 (show (j : Int) < T 0 1 by omega) h8.2 ?_
    rw [wr1 (by omega), Int.toNat_natCast, hom7]
    refine ⟨by omega, by omega, ih _ (he2.up (by simp)) (fun q hq => ?_)⟩
    by_cases e : q = j
    · rw [e, up_self]
    · rw [up_nk e]; exact hq2 q (by omega)
theorem m_livings {T : Sg} {gn : Nat → Nat → Int} {mx : Nat → Int} {y : Int} (hw : WF T) (hg : ∀ q s, 0 ≤ gn q s ∧ gn q s ≤ 99) (hm : ∀ q s, s < nS T → gn q s ≤ mx q) (hmx : ∀ q, 0 ≤ mx q ∧ mx q ≤ 99) (hy : (y = 0 ∧ gn = gnW T ∧ mx = (fun q => gmx T (gnW T) q (nS T))) ∨ (y = 1 ∧ gn = gn1 ∧ mx = fun _ => 1)) : ∀ (k : Nat) {d p : Nat} {h : Nat → Int} {mn sm sum : Int} {b : Int × (Nat → Int)} {σ : Sg} {K : Kt}, MR σ (hom T h) → WF (hom T h) → p + k = nP T → (∀ q, p ≤ q → q < nP T → h q = 9) → (if y = 0 then sm else mn) = sum → (0 ≤ sum ∧ sum ≤ 99 * p) → BEm σ y T b → (-1 ≤ b.1 ∧ b.1 ≤ 1000) → (∀ σ', Ex LLi σ σ' → RFr σ σ' → MR σ' (hom T h) → BEm σ' y T (fs T gn k p h sum b) → (-1 ≤ (fs T gn k p h sum b).1 ∧ (fs T gn k p h sum b).1 ≤ 1000) → K 0 σ') → wpCall (d + k + 6) iX7_livings [aR 85, aI (p : Nat), aI mn, aI sm, aI y] σ K := by
  have l86 : LEN 86 = 107 := rfl
  have h8 := hw.1.2.1
  have h5 := hw.1.1
  have hnP : ((nP T : Nat) : Int) = T 0 1 := Int.toNat_of_nonneg h8.1
  have hnS : ((nS T : Nat) : Int) = T 0 0 := Int.toNat_of_nonneg h5.1
  have hy01 : y = 0 ∨ y = 1 := by omega
  intro k
  induction k with
  | zero =>
    intro d p h mn sm sum b σ K m hwh hp h9 hsel hsum hb hbr hk
    have f1 : σ 86 1 = T 0 1 := m.1.1.2.1
    have hpe : p = nP T := by omega
    subst hpe
    have hk : ∀ σ', Ex LLi σ σ' → RFr σ σ' → MR σ' (hom T h) → BEm σ' y T (if b.1 < sum then (sum, h) else b) → (-1 ≤ (if b.1 < sum then (sum, h) else b).1 ∧ (if b.1 < sum then (sum, h) else b).1 ≤ 1000) → K 0 σ' := hk
    have hb1 := hb.1
    have hr : -1 ≤ (if b.1 < sum then (sum, h) else b).1 ∧ (if b.1 < sum then (sum, h) else b).1 ≤ 1000 := by
      split
      · exact ⟨by show -1 ≤ sum; omega, by show sum ≤ 1000; omega⟩
      · exact hbr
    have lf : b.1 < sum → wpL (wpCall (d + 5)) mX7_livings K 48 [aR 85, aI ((nP T : Nat) : Int), aU, aU, aU, aI 0] [] (up (up σ 85 28 mn) 85 29 sm) := fun q => m_leaf (d := d + 4) (b := b) hw hy01 m hsel q (fun σ' e r m' b' => hk σ' e r m' b' hr)
    have no : ¬ b.1 < sum → K 0 σ := fun q => hk σ Ex.rf RFr.rf m (by rw [if_neg q]; exact hb) hr
    refine bX7_livings ⟨by omega, by omega, fun _ => ⟨fun y0 => ⟨fun q => lf ?_, fun q => no ?_⟩, fun y0 => ⟨fun q => lf ?_, fun q => no ?_⟩⟩, fun z => absurd z (by omega)⟩
    · rw [if_pos y0] at hb1 hsel; omega
    · rw [if_pos y0] at hb1 hsel; omega
    · rw [if_neg y0] at hb1 hsel; omega
    · rw [if_neg y0] at hb1 hsel; omega
  | succ k ih =>
    intro d p h mn sm sum b σ K m hwh hp h9 hsel hsum hb hbr hk
    have f1 : σ 86 1 = T 0 1 := m.1.1.2.1
    have hpn : p < nP T := by omega
    have hpT : (p : Int) < T 0 1 := by omega
    have hp9 : h p = 9 := h9 p (by omega) hpn
    have hh9 : hu h p 9 = h := hu_id hp9
    have hb1 := hb.1
    have hh := hope_r hmx (k + 1) p
    have key : ∀ j s : Nat, s + j = nS T → ∀ (v : Int) (σ1 : Sg) (b1 : Int × (Nat → Int)), Ex LLi σ σ1 → RFr σ σ1 → MR σ1 (hom T (hu h p v)) → WF (hom T (hu h p v)) → BEm σ1 y T b1 → (-1 ≤ b1.1 ∧ b1.1 ≤ 1000) → fsL (fs T gn k (p + 1)) T gn p h sum j s b1 = fsL (fs T gn k (p + 1)) T gn p h sum (nS T) 0 b → wpL (wpCall (d + (k + 1) + 5)) mX7_livings K 118 [aR 85, aI (p : Nat), aI mn, aI sm, aI y, aI (s : Nat)] [] σ1 := by
      intro j
      induction j with
      | zero =>
        intro s hs v σ1 b1 he1 hr1 m1 hw1 hB1 hbr1 hf
        have f0 : σ1 86 0 = T 0 0 := m1.1.1.1
        refine bX7_livings_118 ⟨by omega, by omega, fun z => absurd z (by omega), fun _ => m_goes (d := d + (k + 1) + 3) (by omega) ?_⟩
        have m2 := MR_hu (w := 9) m1 hw1 hpT
        have hw2 := WF_hu (w := 9) hw1 (Or.inl rfl)
        rw [hh9] at m2 hw2
        have e4 : lv 9 = -4 := rfl
        rw [e4] at m2
        have he2 : Ex LLi σ (up σ1 86 (38 + 9 * p) (-4)) := he1.up (by simp)
        rw [wr1 (by omega)]
        refine ih (d := d) (b := b1) m2 hw2 (by omega) (fun q h1 h2 => h9 q (by omega) h2) hsel (by push_cast; omega) (hB1.ex (Ex.rf.up (by simp))) hbr1 (fun σ' he' hr' m' hB' hbr' => ?_)
        have ef : fs T gn (k + 1) p h sum b = fs T gn k (p + 1) h sum b1 := by
          show fs T gn k (p + 1) (hu h p 9) sum _ = _
          rw [← hf, hh9]; rfl
        exact hk σ' (he2.tr (l := LLi) he' (fun _ h => h) (fun _ h => h)) ((hr1.up (by omega)).tr hr') m' (by rw [ef]; exact hB') (by rw [ef]; exact hbr')
      | succ j ihj =>
        intro s hs v σ1 b1 he1 hr1 m1 hw1 hB1 hbr1 hf
        have f0 : σ1 86 0 = T 0 0 := m1.1.1.1
        have hsT : (s : Int) < T 0 0 := by omega
        refine bX7_livings_118 ⟨by omega, by omega, fun _ => m_goes (d := d + (k + 1) + 3) (by omega) ?_, fun z => absurd z (by omega)⟩
        have m2 := MR_hu (w := (s : Int)) m1 hw1 hpT
        have hw2 := WF_hu (w := (s : Int)) hw1 (Or.inr ⟨by omega, hsT⟩)
        rw [lv_id (s := (s : Int)) (by omega)] at m2
        have he2 : Ex LLi σ (up σ1 86 (38 + 9 * p) (s : Int)) := he1.up (by simp)
        have hr2 : RFr σ (up σ1 86 (38 + 9 * p) (s : Int)) := hr1.up (by omega)
        have hB2 : BEm (up σ1 86 (38 + 9 * p) (s : Int)) y T b1 := hB1.ex (Ex.rf.up (by simp))
        refine m_isLawful (d := d + (k + 1)) m2.1 hw2 (g2 (fun yy => ?_) (fun yy => ?_))
        · rw [wr4 (by omega)]
          refine m_get (d := d + (k + 1) + 4) (by omega) (by omega) ?_
          have eg : up σ1 86 (38 + 9 * p) (s : Int) 86 (35 + 9 * p + (4 + s)) = T 6 (5 * p + s) := by
            rw [show 35 + 9 * p + (4 + s) = 39 + 9 * p + s by omega]
            exact (m2.1.2.2.2 p hpT).2.2.2.2 s hsT
          have w6 := (hw.2.2.2 p hpT).2.2.2.2 s hsT
          rw [eg, wr1 (by omega), wr1 (by omega)]
          have hgp := hg p s
          have hsel2 : (if y = 0 then wr (sm + T 6 (5 * p + s)) else wr (mn + 1)) = sum + gn p s := by
            rcases hy with ⟨y0, hgn, -⟩ | ⟨y1, hgn, -⟩
            · rw [if_pos y0] at hsel ⊢
              have : gn p s = T 6 (5 * p + s) := by rw [hgn]; unfold gnW; rw [if_pos ⟨hpT, hsT⟩]
              rw [this, hsel, wr_id ⟨by omega, by omega⟩]
            · rw [if_neg (by omega)] at hsel ⊢
              have : gn p s = 1 := by rw [hgn]; rfl
              rw [this, hsel, wr_id ⟨by omega, by omega⟩]
          refine wcq (ih (d := d) (p := p + 1) (b := b1) m2 hw2 (by omega) (fun q h1 h2 => by rw [hu_n (by omega)]; exact h9 q (by omega) h2) hsel2 (by push_cast; omega) hB2 hbr1 (fun σ3 he3 hr3 m3 hB3 hbr3 => ?_)) rfl
          refine ihj (s + 1) (by omega) (s : Int) σ3 _ (he2.tr (l := LLi) he3 (fun _ h => h) (fun _ h => h)) (hr2.tr hr3) m3 hw2 hB3 hbr3 ?_
          rw [← hf]
          show _ = fsL _ T gn p h sum j (s + 1) (if _ then _ else _)
          rw [if_pos yy]
        · rw [wr1 (by omega)]
          refine ihj (s + 1) (by omega) (s : Int) _ b1 he2 hr2 m2 hw2 hB2 hbr1 ?_
          rw [← hf]
          show _ = fsL _ T gn p h sum j (s + 1) (if _ then _ else _)
          rw [yy]; rfl
    have go : wpL (wpCall (d + (k + 1) + 5)) mX7_livings K 118 [aR 85, aI (p : Nat), aI mn, aI sm, aI y, aI 0] [] σ := key (nS T) 0 (by omega) 9 σ b Ex.rf RFr.rf (by rw [hh9]; exact m) (by rw [hh9]; exact hwh) hb hbr rfl
    have no : sum + hope mx (k + 1) p ≤ b.1 → K 0 σ := fun q => by
      have ef : fs T gn (k + 1) p h sum b = b := fs_prune hm (fun q => (hmx q).1) (k + 1) p h sum b q
      rw [ef] at hk
      exact hk σ Ex.rf RFr.rf m hb hbr
    have hcap : hope mx (k + 1) p ≤ 800 := by omega
    refine bX7_livings ⟨by omega, by omega, fun z => absurd z (by omega), fun _ => ⟨fun y0 => m_wishesFrom (d := d + (k + 1) + 3) (h := h) m.1 hw (by omega) ?_, fun y0 => ⟨by omega, by omega, ?_⟩⟩⟩
    · rcases hy with ⟨-, -, hmxe⟩ | ⟨y1, -, -⟩
      · rw [← hmxe, show nP T - p = k + 1 by omega]
        rw [if_pos y0] at hb1 hsel
        subst hsel
        rw [hb1, wr_id (x := sm + hope mx (k + 1) p) ⟨by omega, by omega⟩]
        exact ⟨fun q => go, fun q => no (by omega)⟩
      · omega
    · rcases hy with ⟨y1, -, -⟩ | ⟨-, -, hmxe⟩
      · omega
      · have hho : ∀ k p, hope (fun _ => 1) k p = (k : Int) := by
          intro k
          induction k with
          | zero => intro p; rfl
          | succ k ih => intro p; show 1 + hope (fun _ => 1) k (p + 1) = _; rw [ih]; push_cast; omega
        rw [hmxe, hho] at no
        rw [if_neg y0] at hb1 hsel
        subst hsel
        rw [hb1, f1, wr_id (x := mn + T 0 1) ⟨by omega, by omega⟩, wr_id (x := mn + T 0 1 - p) ⟨by omega, by omega⟩]
        exact ⟨fun q => go, fun q => no (by push_cast; omega)⟩
abbrev LFi : List Nat := [85, 86, 101, 102]
theorem m_finds {d : Nat} {σ T : Sg} {gn : Nat → Nat → Int} {mx : Nat → Int} {y : Int} {K : Kt} (m : MR σ T) (hw : WF T) (hg : ∀ q s, 0 ≤ gn q s ∧ gn q s ≤ 99) (hm : ∀ q s, s < nS T → gn q s ≤ mx q) (hmx : ∀ q, 0 ≤ mx q ∧ mx q ≤ 99) (hy : (y = 0 ∧ gn = gnW T ∧ mx = (fun q => gmx T (gnW T) q (nS T))) ∨ (y = 1 ∧ gn = gn1 ∧ mx = fun _ => 1)) (hk : ∀ σ', Ex LFi σ σ' → (∀ k, k < 107 → σ' 86 k = σ 86 k) → MR σ' T → BEm σ' y T (fsB T gn) → K 0 σ') : wpCall (d + 8 + 7) iX7_finds [aR 85, aI y] σ K := by
  have l86 : LEN 86 = 107 := rfl
  have l102 : LEN 102 = 8 := rfl
  have h8 := hw.1.2.1
  have h5 := hw.1.1
  have hnP : ((nP T : Nat) : Int) = T 0 1 := Int.toNat_of_nonneg h8.1
  refine bX7_finds (dwn (W := fun p => ∀ σ1, Ex LFi σ σ1 → RFr σ σ1 → (∀ q, q < p → σ1 86 (38 + 9 * q) = -4 ∧ σ1 102 q = σ 86 (38 + 9 * q)) → (∀ q, p ≤ q → σ1 86 (38 + 9 * q) = σ 86 (38 + 9 * q)) → wpL (wpCall (d + 8 + 6)) mX7_finds K 2 [aR 85, aI y, aI (p : Nat)] [] σ1) 8 (fun σ1 he1 hr1 g1 g2 => ?_) (fun p hp ih σ1 he1 hr1 g1 g2 => ?_) 0 (Nat.zero_le _) σ Ex.rf RFr.rf (fun q hq => by omega) (fun q hq => rfl))
  · refine bX7_finds_2 ⟨fun z => by omega, fun _ => ?_⟩
    have hwh : WF (hom T (fun _ => 9)) := WF_hom hw (fun q hq => Or.inl rfl)
    have m1 : MR σ1 (hom T (fun _ => 9)) := MR_hom m hw hr1 (fun q hq => by rw [(g1 q (by omega)).1]; rfl)
    have m2 : MR (up (up σ1 85 28 (-1)) 85 29 (-1)) (hom T (fun _ => 9)) := m1.ex (l := [85]) ((Ex.rf.up (by simp)).up (by simp)) (by simp)
    have he2 : Ex LFi σ (up (up σ1 85 28 (-1)) 85 29 (-1)) := (he1.up (by simp)).up (by simp)
    have hr2 : RFr σ (up (up σ1 85 28 (-1)) 85 29 (-1)) := hr1.ex (l := [85]) ((Ex.rf.up (by simp)).up (by simp)) (by simp)
    have hgo := fun (K2 : Kt) => m_livings (y := y) hw hg hm hmx hy (nP T) (d := d + 8 - nP T) (p := 0) (h := fun _ => 9) (mn := 0) (sm := 0) (sum := 0) (b := (-1, fun _ => 9)) (σ := up (up σ1 85 28 (-1)) 85 29 (-1)) (K := K2) m2 hwh (by omega) (fun q _ _ => rfl) (by split <;> rfl) ⟨by omega, by simp⟩ ⟨by rw [up_self, up_nk (by omega), up_self]; split <;> rfl, fun z => absurd z (by decide)⟩ ⟨by simp, by simp⟩
    have ed : d + 8 - nP T + nP T + 6 = d + 8 + 6 := by omega
    rw [ed] at hgo
    refine hgo _ (fun σ3 he3 hr3 m3 hB3 hbr3 => ?_)
    have he3' : Ex LFi σ σ3 := he2.tr (l := LFi) he3 (fun _ h => h) (by simp)
    have hr3' : RFr σ σ3 := hr2.tr hr3
    have g3 : ∀ q, q < 8 → σ3 102 q = σ 86 (38 + 9 * q) := fun q hq => by
      rw [he3 102 (by simp), up_ne (by omega), up_ne (by omega)]; exact (g1 q hq).2
    refine dwn (W := fun p => ∀ σ4, Ex [86] σ3 σ4 → RFr σ σ4 → (∀ q, q < p → σ4 86 (38 + 9 * q) = σ 86 (38 + 9 * q)) → wpL (wpCall (d + 8 + 6)) mX7_finds K 53 [aR 85, aU, aI (p : Nat)] [] σ4) 8 (fun σ4 he4 hr4 g4 => ?_) (fun p hp ih4 σ4 he4 hr4 g4 => ?_) 0 (Nat.zero_le _) σ3 Ex.rf hr3' (fun q hq => by omega)
    · have hrow : ∀ k, k < 107 → σ4 86 k = σ 86 k := fun k hk => by
        by_cases e : ∃ q, q < 8 ∧ k = 38 + 9 * q
        · obtain ⟨q, hq, rfl⟩ := e; exact g4 q hq
        · exact hr4 k (fun q hq z => e ⟨q, hq, z⟩)
      exact bX7_finds_53 ⟨fun z => by omega, fun _ => hk σ4 (he3'.tr (l := LFi) he4 (fun _ h => h) (by simp)) hrow ⟨m.1.cp hw hrow, m.2.cp hw hrow⟩ (hB3.ex he4)⟩
    · refine bX7_finds_53 ⟨fun _ => ⟨by omega, by omega, m_goes (d := d + 8 + 4) (by omega) ?_⟩, fun z => by omega⟩
      rw [wr1 (by omega), Int.toNat_natCast, he4 102 (by simp), g3 p (by omega)]
      refine ih4 _ (he4.up (by simp)) (hr4.up (by omega)) (fun q hq => ?_)
      by_cases e : q = p
      · rw [e, up_self]
      · rw [up_nk (by omega)]; exact g4 q (by omega)
  · refine bX7_finds_2 ⟨fun _ => m_get (d := d + 8 + 5) (p := p) (k := 3) (by omega) (by omega) ?_, fun z => by omega⟩
    rw [wr1 (by omega), Int.toNat_natCast]
    refine ⟨by omega, by omega, m_goes (d := d + 8 + 4) (by omega) (ih _ ((he1.up (by simp)).up (by simp)) ((hr1.ex (l := [102]) (Ex.rf.up (by simp)) (by simp)).up (by omega)) (fun q hq => ?_) (fun q hq => ?_))⟩
    · by_cases e : q = p
      · subst e
        refine ⟨up_self, ?_⟩
        rw [up_ne (by omega), up_self, show 35 + 9 * q + 3 = 38 + 9 * q by omega]; exact g2 q (by omega)
      · refine ⟨?_, ?_⟩
        · rw [up_nk (by omega), up_ne (by omega)]; exact (g1 q (by omega)).1
        · rw [up_ne (by omega), up_nk e]; exact (g1 q (by omega)).2
    · rw [up_nk (by omega), up_ne (by omega)]; exact g2 q (by omega)
theorem fs_ge {T : Sg} {gn : Nat → Nat → Int} : ∀ (k p : Nat) (h : Nat → Int) (sum : Int) (b : Int × (Nat → Int)), sum ≤ (fs T gn k p h sum b).1
  | 0, p, h, sum, b => by
    show sum ≤ (if b.1 < sum then (sum, h) else b).1
    split
    · exact Int.le_refl _
    · omega
  | k + 1, p, h, sum, b => fs_ge k (p + 1) (hu h p 9) sum _
theorem fsB_0 {T : Sg} {gn : Nat → Nat → Int} : 0 ≤ (fsB T gn).1 := fs_ge _ _ _ _ _
theorem m_finds1 {d : Nat} {σ T : Sg} {K : Kt} (m : MR σ T) (hw : WF T) (hk : ∀ σ', Ex LFi σ σ' → (∀ k, k < 107 → σ' 86 k = σ 86 k) → MR σ' T → σ' 85 28 = (fsB T gn1).1 → (∀ q : Nat, (q : Int) < T 0 1 → σ' 101 q = lv ((fsB T gn1).2 q)) → K 0 σ') : wpCall (d + 8 + 7) iX7_finds [aR 85, aI 1] σ K :=
  m_finds (d := d) (y := 1) (gn := gn1) (mx := fun _ => 1) m hw (fun q s => by unfold gn1; omega) (fun q s _ => by unfold gn1; omega) (fun q => by omega) (Or.inr ⟨rfl, rfl, rfl⟩) (fun σ' he hr m' hB => hk σ' he hr m' hB.1 (hB.2 fsB_0))
theorem m_finds0 {d : Nat} {σ T : Sg} {K : Kt} (m : MR σ T) (hw : WF T) (hk : ∀ σ', Ex LFi σ σ' → (∀ k, k < 107 → σ' 86 k = σ 86 k) → MR σ' T → σ' 85 29 = (fsB T (gnW T)).1 → (∀ q : Nat, (q : Int) < T 0 1 → σ' 101 q = lv ((fsB T (gnW T)).2 q)) → K 0 σ') : wpCall (d + 8 + 7) iX7_finds [aR 85, aI 0] σ K := by
  have hgr : ∀ q s, 0 ≤ gnW T q s ∧ gnW T q s ≤ 99 := fun q s => by
    unfold gnW
    split
    · next z => exact (hw.2.2.2 q z.1).2.2.2.2 s z.2
    · omega
  have hgm := fun q => gmx_r (T := T) (hgr q) (nS T)
  exact m_finds (d := d) (y := 0) (gn := gnW T) (mx := fun q => gmx T (gnW T) q (nS T)) m hw hgr (fun q s hs => (hgm q).2 s hs) (fun q => (hgm q).1) (Or.inl ⟨rfl, rfl, rfl⟩) (fun σ' he hr m' hB => hk σ' he hr m' hB.1 (hB.2 fsB_0))
theorem m_mostOf {d : Nat} {σ T : Sg} {K : Kt} (m : MR σ T) (hw : WF T) (hk : ∀ σ', Ex LFi σ σ' → (∀ k, k < 107 → σ' 86 k = σ 86 k) → MR σ' T → K (fsB T gn1).1 σ') : wpCall (d + 8 + 8) iX7_mostOf [aR 85] σ K :=
  bX7_mostOf (m_finds1 (d := d) m hw (fun σ' he hr m' h28 _ => kq (hk σ' he hr m') h28))
