/-! THE MODEL TRIES MOVES -/
def FRm (l : List Nat) (σ σ' : Sg) : Prop := ∀ j, j ∉ l → σ' 85 j = σ 85 j
theorem FRm.rf {l : List Nat} {σ : Sg} : FRm l σ σ := fun _ _ => rfl
theorem FRm.up {l : List Nat} {σ σ1 : Sg} {j : Nat} {v : Int} (h : FRm l σ σ1) (hj : j ∈ l) : FRm l σ (up σ1 85 j v) := fun i hi => by
  rw [up_nk (fun q => hi (by rw [q]; exact hj))]
  exact h i hi
theorem FRm.ex {l L : List Nat} {σ σ1 σ2 : Sg} (h : FRm l σ σ1) (he : Ex L σ1 σ2) (h85 : 85 ∉ L) : FRm l σ σ2 := fun i hi => (he 85 h85 i).trans (h i hi)
theorem FRm.tr {l l1 l2 : List Nat} {σ σ1 σ2 : Sg} (h1 : FRm l1 σ σ1) (h2 : FRm l2 σ1 σ2) (i1 : ∀ a ∈ l1, a ∈ l) (i2 : ∀ a ∈ l2, a ∈ l) : FRm l σ σ2 := fun i hi => (h2 i (fun q => hi (i2 i q))).trans (h1 i (fun q => hi (i1 i q)))
abbrev LTr : List Nat := [85, 86, 90, 91]
abbrev LFt : List Nat := [24, 25, 26]
theorem m_back {d a : Nat} {σ0 σ T : Sg} {K : Kt} (ha : LEN a = 107) (hne : a ≠ 86) (hr : ∀ j, j < 107 → σ a j = σ0 86 j) (h : MR σ0 T) (hw : WF T) (hk : ∀ σ', Ex [86] σ σ' → (∀ j, j < 107 → σ' 86 j = σ a j) → MR σ' T → K 0 σ') : wpCall (d + 1) iX7_copies [aR a, aR 86] σ K :=
  m_copies ha rfl hne (fun σ' he hi => hk σ' he hi ⟨h.1.cp hw (fun k hk => (hi k hk).trans (hr k hk)), h.2.cp hw (fun k hk => (hi k hk).trans (hr k hk))⟩)
theorem lv_inj {x y : Int} (hx : x = 9 ∨ 0 ≤ x) (hy : y = 9 ∨ 0 ≤ y) : lv x = lv y ↔ x = y := by
  unfold lv
  constructor
  · intro h
    split at h <;> split at h <;> omega
  · intro h; rw [h]
theorem m_tries {d w o s : Nat} {k : Int} {σ T : Sg} {K : Kt} (h : MR σ T) (hw : WF T) (hok : okM T k w o s) (hk : ∀ σ', Ex LTr σ σ' → FRm LFt σ σ' → (∀ j, j < 107 → σ' 90 j = σ 86 j) → MR σ' (doM T k w o s) → σ' 85 24 = b2i (wnt T (doM T k w o s) (!decide (k = 6))) → σ' 85 25 = b2i (lawful (doM T k w o s)) → σ' 85 26 = cnt (mvd T (doM T k w o s)) (nP T) → K 0 σ') : wpCall (d + 6) iX7_tries [aR 85, aI k, aI (w : Nat), aI (o : Nat), aI (s : Nat)] σ K := by
  have hv := h.1
  obtain ⟨⟨e0, e1, e2, e3, e4⟩, eh, ew, ep⟩ := id hv
  obtain ⟨⟨⟨a1, a2⟩, ⟨a3, a4⟩, ⟨a5, a6⟩, ⟨a7, a8⟩, a9⟩, wh, ww, wp⟩ := id hw
  have hnP : ((nP T : Nat) : Int) = T 0 1 := Int.toNat_of_nonneg a3
  have hnS : ((nS T : Nat) : Int) = T 0 0 := Int.toNat_of_nonneg a1
  have l86 : LEN 86 = 107 := rfl
  have l90 : LEN 90 = 107 := rfl
  have l91 : LEN 91 = 107 := rfl
  have hwd := hw.doM hok
  have hP := doM_P (T := T) (k := k) (w := w) (o := o) (s := s)
  obtain ⟨T', hT'⟩ : ∃ T', doM T k w o s = T' := ⟨_, rfl⟩
  rw [hT'] at hk hwd hP
  have hP1 : T' 0 1 = T 0 1 := by rw [hP]
  have hnP' : nP T' = nP T := by unfold nP; rw [hP]
  obtain ⟨a, ha⟩ : ∃ a : Bool, (!decide (k = 6)) = a := ⟨_, rfl⟩
  rw [ha] at hk
  have key : ∀ k' p : Nat, p + k' = nP T → ∀ (fl : Bool) (σ1 : Sg), Ex LTr σ σ1 → FRm LFt σ σ1 → (∀ j, j < 107 → σ1 90 j = σ 86 j) → (∀ j, j < 107 → σ1 91 j = σ1 86 j) → MR σ1 T' → σ1 85 24 = b2i fl → σ1 85 26 = cnt (mvd T T') p → (fl && allI (gainOK T T' a) k' p) = allI (gainOK T T' a) (nP T) 0 → wpL (wpCall (d + 5)) mX7_tries K 44 [aR 85, aI k, aU, aU, aU, aI (p : Nat), aU, aU, aU] [] σ1 := by
    intro k'
    induction k' with
    | zero =>
      intro p hp fl σ1 he hf h90 h91 h1 h24 h26 hfl
      have f1 : σ1 86 1 = T' 0 1 := h1.1.1.2.1
      rw [show allI (gainOK T T' a) 0 p = true from rfl, Bool.and_true] at hfl
      have hpe : p = nP T := by omega
      have fin : ∀ v : Int, v = b2i (wnt T T' a) → wpCall (d + 5) iX7_isLawful [aR 85] (up σ1 85 24 v) (fun r1 s1 => (r1 = 0 ∨ r1 = 1) ∧ K 0 (up s1 85 25 r1)) := by
        intro v hv
        have h2 : MR (up σ1 85 24 v) T' := h1.ex (l := [85]) (Ex.rf.up (by simp)) (by simp)
        refine m_isLawful (d := d) h2.1 hwd ⟨b2i_d _, hk _ ((he.up (by simp)).up (by simp)) ((hf.up (by simp)).up (by simp)) (fun j hj => ?_) (h2.ex (l := [85]) (Ex.rf.up (by simp)) (by simp)) ?_ up_self ?_⟩
        · rw [up_ne (by omega), up_ne (by omega)]; exact h90 j hj
        · rw [up_nk (by omega), up_self]; exact hv
        · rw [up_nk (by omega), up_nk (by omega), h26, hpe]
      have hwn : wnt T T' a = (fl && decide (0 < cnt (mvd T T') (nP T))) := by
        unfold wnt; rw [hnP', hfl]
      rw [hpe] at h26
      refine bX7_tries_44 ⟨by omega, by omega, fun z => absurd z (by omega), fun _ => ⟨fun q => ⟨by decide, fin _ ?_⟩, fun q => ⟨fun q2 => ⟨by decide, fin _ ?_⟩, fun q2 => ⟨by decide, fin _ ?_⟩⟩⟩⟩
      · rw [h24] at q
        have : fl = false := by cases fl <;> simp_all [b2i]
        rw [hwn, this]; rfl
      · rw [h24] at q
        have : fl = true := by cases fl <;> simp_all [b2i]
        rw [h26] at q2
        rw [hwn, this, decide_eq_true q2]; rfl
      · rw [h26] at q2
        rw [hwn, decide_eq_false q2, Bool.and_false]; rfl
    | succ k' ih =>
      intro p hp fl σ1 he hf h90 h91 h1 h24 h26 hfl
      have f1 : σ1 86 1 = T' 0 1 := h1.1.1.2.1
      have hpT : (p : Int) < T 0 1 := by omega
      have w7 := (wp p hpT).2.2.2.1
      have w7' := (hwd.2.2.2 p (by omega)).2.2.2.1
      have e7 : σ 86 (38 + 9 * p) = lv (T 7 p) := (ep p hpT).2.2.2.1
      have hinj := lv_inj (x := T 7 p) (y := T' 7 p) (by omega) (by omega)
      rw [allI_s] at hfl
      have r := cnt_r (mvd T T') p
      refine bX7_tries_44 ⟨by omega, by omega, fun _ => ?_, fun z => absurd z (by omega)⟩
      rw [ixp3 (by omega), Int.toNat_natCast, h90 _ (by omega), e7]
      refine ⟨by omega, by omega, m_at (d := d + 4) h1.1 (by omega) (by omega) ⟨fun q => ?_, fun q => ?_⟩⟩
      · have hm : mvd T T' p = false := by unfold mvd; rw [hinj.1 q]; simp
        rw [wr1 (by omega)]
        refine ih (p + 1) (by omega) fl σ1 he hf h90 h91 h1 h24 (by rw [cnt_f hm]; exact h26) ?_
        rw [← hfl]
        rw [show gainOK T T' a p = true by unfold gainOK; rw [hm]; rfl, Bool.true_and]
      · have hne : ¬ T' 7 p = T 7 p := fun z => q (hinj.2 z.symm)
        have hm : mvd T T' p = true := by unfold mvd; simp [hne]
        have hg : gainOK T T' a p = (!a || decide (wNow T p < wNow T' p)) := by unfold gainOK; rw [hm]; rfl
        rw [hg] at hfl
        rw [h26, wr_id (x := cnt (mvd T T') p + 1) ⟨by omega, by omega⟩]
        have h1u : MR (up σ1 85 26 (cnt (mvd T T') p + 1)) T' := h1.ex (l := [85]) (Ex.rf.up (by simp)) (by simp)
        have heu : Ex LTr σ (up σ1 85 26 (cnt (mvd T T') p + 1)) := he.up (by simp)
        have hfu : FRm LFt σ (up σ1 85 26 (cnt (mvd T T') p + 1)) := hf.up (by simp)
        refine m_worthOf (d := d + 2) h1u.1 hwd (by omega) (m_back (d := d + 4) (σ0 := σ) l90 (by omega) (fun j hj => by rw [up_ne (by omega)]; exact h90 j hj) h hw (fun σ2 he2 hi2 h2 => m_worthOf (d := d + 2) h2.1 hw hpT (m_back (d := d + 4) (σ0 := σ1) l91 (by omega) (fun j hj => by rw [he2 91 (by simp), up_ne (by omega)]; exact h91 j hj) h1 hwd (fun σ3 he3 hi3 h3 => ?_))))
        have he23 : Ex LTr σ σ3 := (heu.tr (l := LTr) he2 (fun _ h => h) (by simp)).tr he3 (fun _ h => h) (by simp)
        have hf23 : FRm LFt σ σ3 := (hfu.ex he2 (by simp)).ex he3 (by simp)
        have g24 : σ3 85 24 = b2i fl := by rw [he3 85 (by simp), he2 85 (by simp), up_nk (by omega)]; exact h24
        have g26 : σ3 85 26 = cnt (mvd T T') (p + 1) := by rw [he3 85 (by simp), he2 85 (by simp), up_self, cnt_t hm]
        have g90 : ∀ j, j < 107 → σ3 90 j = σ 86 j := fun j hj => by rw [he3 90 (by simp), he2 90 (by simp), up_ne (by omega)]; exact h90 j hj
        have g91 : ∀ j, j < 107 → σ3 91 j = σ3 86 j := fun j hj => by rw [hi3 j hj, he3 91 (by simp)]
        have next : ∀ (v : Int) (fl' : Bool), v = b2i fl' → (fl' && allI (gainOK T T' a) k' (p + 1)) = allI (gainOK T T' a) (nP T) 0 → wpL (wpCall (d + 5)) mX7_tries K 44 [aR 85, aI k, aU, aU, aU, aI (wr ((p : Int) + 1)), aU, aU, aU] [] (up σ3 85 24 v) := by
          intro v fl' hv hfl'
          rw [wr1 (by omega)]
          refine ih (p + 1) (by omega) fl' _ (he23.up (by simp)) (hf23.up (by simp)) (fun j hj => by rw [up_ne (by omega)]; exact g90 j hj) (fun j hj => by rw [up_ne (by omega), up_ne (by omega)]; exact g91 j hj) (h3.ex (l := [85]) (Ex.rf.up (by simp)) (by simp)) (by rw [up_self]; exact hv) (by rw [up_nk (by omega)]; exact g26) hfl'
        rw [g24]
        refine ⟨fun z => ⟨by decide, next 0 false rfl ?_⟩, fun z => ⟨fun z6 => ⟨by decide, next 1 true rfl ?_⟩, fun z6 => ⟨fun g => ⟨by decide, next 1 true rfl ?_⟩, fun g => ⟨by decide, next 0 false rfl ?_⟩⟩⟩⟩
        · have : fl = false := by cases fl <;> simp_all [b2i]
          rw [← hfl, this]; rfl
        · have : fl = true := by cases fl <;> simp_all [b2i]
          have ha2 : a = false := by rw [← ha]; simp [z6]
          rw [← hfl, this, ha2]; rfl
        · have : fl = true := by cases fl <;> simp_all [b2i]
          rw [← hfl, this, decide_eq_true g, Bool.or_true, Bool.true_and]; rfl
        · have ha2 : a = true := by rw [← ha]; simp [z6]
          rw [← hfl, decide_eq_false g, ha2]
          simp
  refine bX7_tries (m_copies (d := d + 4) l86 l90 (by omega) (fun σ1 he1 hi1 => m_does (d := d + 2) (h.ex he1 (by simp)) hw hok (fun σ2 he2 h2 => ⟨by decide, m_copies (d := d + 4) l86 l91 (by omega) (fun σ3 he3 hi3 => ?_)⟩)))
  rw [hT'] at h2
  have eA : Ex LTr σ (up (up σ2 85 26 0) 85 24 1) := ((he1.tr (l := LTr) he2 (by simp) (by simp)).up (by simp)).up (by simp)
  have eB : Ex LTr σ σ3 := eA.tr he3 (fun _ h => h) (by simp)
  have fA : FRm LFt σ (up (up σ2 85 26 0) 85 24 1) := ((((FRm.rf (l := LFt) (σ := σ)).ex he1 (by simp)).ex he2 (by simp)).up (by simp)).up (by simp)
  have hA : MR (up (up σ2 85 26 0) 85 24 1) T' := h2.ex (l := [85]) ((Ex.rf.up (by simp)).up (by simp)) (by simp)
  refine key (nP T) 0 (by omega) true σ3 eB (fA.ex he3 (by simp)) (fun j hj => ?_) (fun j hj => ?_) (hA.ex he3 (by simp)) ?_ ?_ (by rw [Bool.true_and])
  · rw [he3 90 (by simp), up_ne (by omega), up_ne (by omega), he2 90 (by simp)]; exact hi1 j hj
  · rw [hi3 j hj, he3 86 (by simp)]
  · rw [he3 85 (by simp), up_self]; rfl
  · rw [he3 85 (by simp), up_nk (by omega), up_self]; rfl
theorem m_putsBack {d : Nat} {σ0 σ T : Sg} {K : Kt} (hr : ∀ j, j < 107 → σ 90 j = σ0 86 j) (h : MR σ0 T) (hw : WF T) (hk : ∀ σ', Ex [86] σ σ' → (∀ j, j < 107 → σ' 86 j = σ0 86 j) → MR σ' T → K 0 σ') : wpCall (d + 2) iX7_putsBack [aR 85] σ K :=
  bX7_putsBack (m_back (d := d) rfl (by omega) hr h hw (fun σ' he hi h' => hk σ' he (fun j hj => (hi j hj).trans (hr j hj)) h'))
theorem m_goesBy {d w o s : Nat} {k : Int} {σ T : Sg} {K : Kt} (h : MR σ T) (hw : WF T) (hok : okM T k w o s) (hk6 : k ≠ 6) (hk : ∀ σ', Ex LTr σ σ' → MR σ' T → K (b2i (opn T k w o s)) σ') : wpCall (d + 7) iX7_goesBy [aR 85, aI k, aI (w : Nat), aI (o : Nat), aI (s : Nat)] σ K := by
  refine bX7_goesBy (m_tries (d := d) h hw hok (fun σ1 he1 hf1 h90 h1 h24 h25 h26 => m_putsBack (d := d + 4) h90 h hw (fun σ2 he2 hi2 h2 => ?_)))
  have e := he1.tr (l := LTr) he2 (fun _ h => h) (by simp)
  have hk := hk σ2 e h2
  rw [he2 85 (by simp), he2 85 (by simp), h24, h25]
  unfold opn at hk
  cases q1 : wnt T (doM T k w o s) (!decide (k = 6)) <;> cases q2 : lawful (doM T k w o s) <;> rw [q1, q2] at hk
  · exact ⟨fun _ => ⟨by decide, hk⟩, fun z => absurd rfl z⟩
  · exact ⟨fun _ => ⟨by decide, hk⟩, fun z => absurd rfl z⟩
  · exact ⟨fun z => absurd z (by decide), fun _ => ⟨fun _ => ⟨by decide, hk⟩, fun z => absurd rfl z⟩⟩
  · exact ⟨fun z => absurd z (by decide), fun _ => ⟨fun z => absurd z (by decide), fun _ => ⟨by decide, hk⟩⟩⟩
