/-! moves -/
def MO (σ : Sg) (v : Nat) (k w o s : Int) : Prop := MVE v ∧ σ v 0 = k ∧ σ v 1 = w ∧ σ v 2 = o ∧ σ v 3 = s
theorem mve_r {v : Nat} (h : MVE v) : 56 ≤ v ∧ v < 108 ∧ v ≠ 57 ∧ v ≠ 58 ∧ v ≠ 59 := by
  have h0 : CLS v = 0 := h
  have hl : v < 108 := CLS_lt (by omega)
  have key : ∀ v, v < 108 → CLS v = 0 → 56 ≤ v ∧ v < 108 ∧ v ≠ 57 ∧ v ≠ 58 ∧ v ≠ 59 := by decide +kernel
  exact key v hl h0
theorem tw_le {t : Nat} (h : TW t) : t ≤ 36 := by rcases tw_cases h with rfl | rfl | rfl | rfl | rfl <;> omega
theorem MO.ex {σ σ' : Sg} {v : Nat} {k w o s : Int} {l : List Nat} (h : MO σ v k w o s) (he : Ex l σ σ') (hl : v ∉ l) : MO σ' v k w o s := by
  obtain ⟨h1, h2, h3, h4, h5⟩ := h
  have e := he v hl
  exact ⟨h1, (e 0).trans h2, (e 1).trans h3, (e 2).trans h4, (e 3).trans h5⟩
theorem s_asksOther {d v : Nat} {σ : Sg} {k w o s : Int} {K : Kt} (hm : MO σ v k w o s) (h1 : k = 2 ∨ k = 5 → K 1 σ) (h0 : ¬ (k = 2 ∨ k = 5) → K 0 σ) : wpCall (d + 1) iX0_asksOther [aR v] σ K := by
  obtain ⟨hv, e0, e1, e2, e3⟩ := hm
  refine bX0_asksOther ?_
  rw [e0]
  exact ⟨hv, fun q => ⟨by decide, h1 (by omega)⟩, fun q => ⟨hv, fun q2 => ⟨by decide, h1 (by omega)⟩, fun q2 => ⟨by decide, h0 (by omega)⟩⟩⟩
theorem s_asksTo {d v : Nat} {σ : Sg} {k w o s : Int} {K : Kt} (hm : MO σ v k w o s) (h1 : ¬ (k = 0 ∨ k = 6 ∨ k = 2) → K 1 σ) (h0 : k = 0 ∨ k = 6 ∨ k = 2 → K 0 σ) : wpCall (d + 1) iX0_asksTo [aR v] σ K := by
  obtain ⟨hv, e0, e1, e2, e3⟩ := hm
  refine bX0_asksTo ?_
  rw [e0]
  exact ⟨hv, fun q => ⟨by decide, h0 (by omega)⟩, fun q => ⟨hv, fun q2 => ⟨by decide, h0 (by omega)⟩, fun q2 => ⟨hv, fun q3 => ⟨by decide, h0 (by omega)⟩, fun q3 => ⟨by decide, h1 (by omega)⟩⟩⟩⟩
def thr (T : Sg) (k w o s : Int) : Bool := decide (0 ≤ w ∧ w < T 0 1) && ((!decide (k = 2 ∨ k = 5) || decide (0 ≤ o ∧ o < T 0 1)) && (decide (k = 0 ∨ k = 6 ∨ k = 2) || decide (0 ≤ s ∧ s < T 0 0)))
theorem s_isThereIn {d v t : Nat} {σ T : Sg} {k w o s : Int} {K : Kt} (hm : MO σ v k w o s) (hv : TV σ t T) (h1 : thr T k w o s = true → K 1 σ) (h0 : thr T k w o s = false → K 0 σ) : wpCall (d + 2) iX0_isThereIn [aR v, aR t] σ K := by
  have hm2 := hm
  obtain ⟨hq, e0, e1, e2, e3⟩ := hm2
  have ht := hv.1
  refine bX0_isThereIn ?_
  rw [e1]
  refine ⟨hq, ht, s_hasPerson hv (fun a b => br_f2 (by decide) ⟨hq, s_asksOther hm (fun c => br_f2 (by decide) ⟨hq, ht, s_hasPerson hv (fun f g => br_f2 (by decide) ⟨hq, s_asksTo hm (fun p => br_f2 (by decide) ⟨hq, ht, s_hasStreet hv (fun x y => br_f2 (by decide) ⟨by decide, h1 ?_⟩) (fun x => br_t2 rfl ⟨by decide, h0 ?_⟩)⟩) (fun p => br_t2 rfl ⟨by decide, h1 ?_⟩)⟩) (fun f => br_t2 rfl ⟨by decide, h0 ?_⟩)⟩) (fun c => br_t2 rfl ⟨hq, s_asksTo hm (fun p => br_f2 (by decide) ⟨hq, ht, s_hasStreet hv (fun x y => br_f2 (by decide) ⟨by decide, h1 ?_⟩) (fun x => br_t2 rfl ⟨by decide, h0 ?_⟩)⟩) (fun p => br_t2 rfl ⟨by decide, h1 ?_⟩)⟩)⟩) (fun a => br_t2 rfl ⟨by decide, h0 ?_⟩)⟩
  all_goals (simp_all [thr] <;> (intros; omega))
def lett (k w o s : Int) : Int := if k = 1 then 3 else if k = 2 then 4 else if k = 3 then 3 + s else if k = 4 then 6 else if k = 5 then 4 + o else if k = 6 then 0 else if k = 7 then 3 + w else 1
theorem s_letterCount {d v : Nat} {σ : Sg} {k w o s : Int} {K : Kt} (hm : MO σ v k w o s) (hr : (0 ≤ w ∧ w ≤ 9) ∧ (0 ≤ o ∧ o ≤ 9) ∧ (0 ≤ s ∧ s ≤ 9)) (hk : K (lett k w o s) σ) : wpCall (d + 3) iX0_letterCount [aR v] σ K := by
  obtain ⟨hq, e0, e1, e2, e3⟩ := hm
  have l1 : ∀ {d : Nat} {K : Kt}, K 1 σ → wpCall (d + 1) iX0_lettersOfMove [] σ K := fun h => bX0_lettersOfMove h
  have l2 : ∀ {d : Nat} {K : Kt}, K 3 σ → wpCall (d + 2) iX0_lettersOfOne [] σ K := fun h => bX0_lettersOfOne (l1 h)
  have l4 : ∀ {d : Nat} {K : Kt}, K 4 σ → wpCall (d + 2) iX0_lettersOfSwap [] σ K := fun h => bX0_lettersOfSwap (l1 h)
  refine bX0_letterCount ?_
  rw [e0]
  have w1 : ∀ x : Int, 0 ≤ x ∧ x ≤ 100 → wr x = x := fun x h => wr_id ⟨by omega, by omega⟩
  refine ⟨hq, fun q => l2 (kq hk (by simp [lett, q])), fun q => l4 (kq hk (by simp [lett, q])), fun q => l2 ⟨hq, kq hk ?_⟩, fun q => l2 (kq hk (by simp [lett, q]; decide)), fun q => l4 ⟨hq, kq hk ?_⟩, fun q => l1 (kq hk (by simp [lett, q]; decide)), fun q => l2 ⟨hq, kq hk ?_⟩, fun q => l1 (kq hk ?_)⟩
  · rw [e3, w1 _ (by omega)]; simp [lett, q]
  · rw [e2, w1 _ (by omega)]; simp [lett, q]
  · rw [e1, w1 _ (by omega)]; simp [lett, q]
  · unfold lett
    rw [if_neg (by omega), if_neg (by omega), if_neg (by omega), if_neg (by omega), if_neg (by omega), if_neg (by omega), if_neg (by omega)]
/-- who makes room in a chain -/
def chP (T : Sg) (w s : Nat) : Int := fstI (fun p => !decide (p = w) && decide (T 7 p = s)) (-4) (nP T) 0
def chM (T : Sg) (w s : Nat) : Sg := if T 1 s ≤ crowd T s ∧ 0 ≤ chP T w s then up (up T 7 w s) 7 (chP T w s).toNat (T 7 w) else up T 7 w s
def doM (T : Sg) (k : Int) (w o s : Nat) : Sg := if k = 1 then up T 7 w s else if k = 2 then up (up T 7 w (T 7 o)) 7 o (T 7 w) else if k = 3 then chM T w s else if k = 4 then (if crowd T s < T 1 s then up T 7 w s else T) else if k = 5 then up (up T 7 w s) 7 o s else if k = 6 then up T 7 w 9 else if k = 7 then up (up T 7 w s) 4 w (T 3 w) else T
theorem doM_def {T : Sg} {k : Int} {w o s : Nat} : doM T k w o s = if k = 1 then up T 7 w s else if k = 2 then up (up T 7 w (T 7 o)) 7 o (T 7 w) else if k = 3 then chM T w s else if k = 4 then (if crowd T s < T 1 s then up T 7 w s else T) else if k = 5 then up (up T 7 w s) 7 o s else if k = 6 then up T 7 w 9 else if k = 7 then up (up T 7 w s) 4 w (T 3 w) else T := rfl
theorem fstI_lt {f : Nat → Bool} {z : Int} (hz : z < 0) : ∀ k i : Nat, 0 ≤ fstI f z k i → fstI f z k i < i + k ∧ i ≤ fstI f z k i ∧ f (fstI f z k i).toNat = true := by
  intro k
  induction k with
  | zero => intro i h; simp only [fstI] at h; omega
  | succ k ih =>
    intro i h
    by_cases q : f i = true
    · have e : fstI f z (k + 1) i = (i : Int) := by simp [fstI, q]
      rw [e, Int.toNat_natCast]
      exact ⟨by omega, by omega, q⟩
    · have e : fstI f z (k + 1) i = fstI f z k (i + 1) := by simp [fstI, q]
      rw [e] at h ⊢
      obtain ⟨h1, h2, h3⟩ := ih (i + 1) h
      exact ⟨by push_cast at h1 ⊢; omega, by push_cast at h2; omega, h3⟩
theorem chP_r {T : Sg} {w s : Nat} (h : 0 ≤ chP T w s) : chP T w s < nP T ∧ (chP T w s).toNat ≠ w := by
  have := fstI_lt (by omega) _ _ h
  unfold chP
  refine ⟨by have := this.1; omega, ?_⟩
  have h3 := this.2.2
  simp only [Bool.and_eq_true, Bool.not_eq_true', decide_eq_false_iff_not] at h3
  exact h3.1
theorem TV.hide {σ : Sg} {t : Nat} {T : Sg} (hv : TV σ t T) (p : Nat) (v : Int) : TV (up σ (t + 4) p v) t (up T 4 p v) := by
  obtain ⟨ht, ⟨e0, e3, e9, e10, e11⟩, eh, ew, ep⟩ := hv
  refine ⟨ht, ⟨?_, ?_, ?_, ?_, ?_⟩, fun s hs => ?_, fun a b ha hb => ?_, fun q hq => ?_⟩
  · rw [up_ne (by omega), up_ne (by omega)]; exact e0
  · rw [up_ne (by omega), up_ne (by omega)]; exact e3
  · rw [up_ne (by omega), up_ne (by omega)]; exact e9
  · rw [up_ne (by omega), up_ne (by omega)]; exact e10
  · rw [up_ne (by omega), up_ne (by omega)]; exact e11
  · rw [up_ne (by omega)] at hs
    rw [up_ne (by omega), up_ne (by omega)]; exact eh s hs
  · rw [up_ne (by omega)] at ha hb
    rw [up_ne (by omega), up_ne (by omega)]; exact ew a b ha hb
  · rw [up_ne (by omega)] at hq
    obtain ⟨c3, c4, c5, c7, c6⟩ := ep q hq
    refine ⟨?_, ?_, ?_, ?_, fun s hs => ?_⟩
    · rw [up_ne (by omega), up_ne (by omega)]; exact c3
    · by_cases e : q = p
      · rw [e, up_self, up_self]
      · rw [up_nk e, up_nk e]; exact c4
    · rw [up_ne (by omega), up_ne (by omega)]; exact c5
    · rw [up_ne (by omega), up_ne (by omega)]; exact c7
    · rw [up_ne (by omega)] at hs
      rw [up_ne (by omega), up_ne (by omega)]; exact c6 s hs
theorem WF.hide {T : Sg} (hw : WF T) (p : Nat) {v : Int} (hv : U8 v) : WF (up T 4 p v) := by
  obtain ⟨hn, wh, ww, wp⟩ := hw
  have u0 : up T 4 p v 0 = T 0 := up_f (by omega)
  refine ⟨?_, fun s hs => ?_, fun a b ha hb => ?_, fun q hq => ?_⟩
  · unfold WFn; rw [u0]; exact hn
  · rw [u0] at hs; rw [up_f (by omega)]; exact wh s hs
  · rw [u0] at ha hb; unfold WFw; rw [up_f (by omega)]; exact ww a b ha hb
  · rw [u0] at hq
    obtain ⟨c3, c4, c5, c7, c6⟩ := wp q hq
    unfold WFp
    rw [u0, up_f (a := 4) (b := 3) (by omega), up_f (a := 4) (b := 7) (by omega), up_f (a := 4) (b := 5) (by omega), up_f (a := 4) (b := 6) (by omega)]
    refine ⟨c3, ?_, c5, c7, c6⟩
    by_cases e : q = p
    · rw [e, up_self]; exact hv
    · rw [up_nk e]; exact c4
theorem home_ok {T : Sg} {p : Nat} (hw : WF T) (hp : (p : Int) < T 0 1) : T 7 p = 9 ∨ (0 ≤ T 7 p ∧ T 7 p < T 0 0) := (hw.2.2.2 p hp).2.2.2.1
/-- what must be there for a move of kind k -/
def okM (T : Sg) (k : Int) (w o s : Nat) : Prop := (w : Int) < T 0 1 ∧ (k = 2 ∨ k = 5 → (o : Int) < T 0 1) ∧ (¬ (k = 0 ∨ k = 6 ∨ k = 2) → (s : Int) < T 0 0)
theorem WF.doM {T : Sg} {k : Int} {w o s : Nat} (hw : WF T) (hk : okM T k w o s) : WF (doM T k w o s) := by
  obtain ⟨h1, h2, h3⟩ := hk
  have u0 : ∀ p v, up T 7 p v 0 = T 0 := fun p v => up_f (by omega)
  rw [doM_def]
  by_cases c1 : k = 1
  · rw [if_pos c1]; exact hw.home w (by have := h3 (by omega); omega)
  rw [if_neg c1]
  by_cases c2 : k = 2
  · rw [if_pos c2]
    refine (hw.home w (home_ok hw (h2 (by omega)))).home o ?_
    rw [u0]; exact home_ok hw h1
  rw [if_neg c2]
  by_cases c3 : k = 3
  · rw [if_pos c3]
    have hs := h3 (by omega)
    unfold chM
    split
    · refine (hw.home w (by omega)).home _ ?_
      rw [u0]; exact home_ok hw h1
    · exact hw.home w (by omega)
  rw [if_neg c3]
  by_cases c4 : k = 4
  · rw [if_pos c4]
    split
    · exact hw.home w (by have := h3 (by omega); omega)
    · exact hw
  rw [if_neg c4]
  by_cases c5 : k = 5
  · rw [if_pos c5]
    have hs := h3 (by omega)
    refine (hw.home w (by omega)).home o ?_
    rw [u0]; omega
  rw [if_neg c5]
  by_cases c6 : k = 6
  · rw [if_pos c6]; exact hw.home w (Or.inl rfl)
  rw [if_neg c6]
  by_cases c7 : k = 7
  · rw [if_pos c7]
    have hs := h3 (by omega)
    exact (hw.home w (by omega)).hide w (hw.2.2.2 w h1).1
  rw [if_neg c7]; exact hw
theorem s_swapIn {d v t w o : Nat} {σ T : Sg} {k s : Int} {K : Kt} (hm : MO σ v k w o s) (hv : TV σ t T) (hw : WF T) (h1 : (w : Int) < T 0 1) (h2 : (o : Int) < T 0 1) (hk : ∀ σ', Ex [t + 7] σ σ' → TV σ' t (up (up T 7 w (T 7 o)) 7 o (T 7 w)) → K 0 σ') : wpCall (d + 1) iX0_swapIn [aR v, aR t] σ K := by
  obtain ⟨ht, ⟨e0, e3, e9, e10, e11⟩, eh, ew, ep⟩ := id hv
  obtain ⟨l1, l2, l3, l4, l5, l6, l7, l8⟩ := tw_len ht
  obtain ⟨⟨⟨a1, a2⟩, ⟨a3, a4⟩, ⟨a5, a6⟩, ⟨a7, a8⟩, a9⟩, wh, ww, wp⟩ := id hw
  have hnP : ((nP T : Nat) : Int) = T 0 1 := Int.toNat_of_nonneg a3
  have hnS : ((nS T : Nat) : Int) = T 0 0 := Int.toNat_of_nonneg a1
  obtain ⟨hq, f0, f1, f2, f3⟩ := hm
  have hr := mve_r hq
  have ht2 := tw_le ht
  refine bX0_swapIn ?_
  have e1 : ∀ (p : Nat) (x : Int), up σ (t + 7) p x v = σ v := fun p x => up_f (by omega)
  rw [f1, f2, Int.toNat_natCast, Int.toNat_natCast, e1, f2, Int.toNat_natCast, (ep w h1).2.2.2.1, (ep o h2).2.2.2.1]
  refine ⟨ht, hq, by omega, by omega, ht, hq, ht, hq, by omega, by omega, by omega, by omega, ht, hq, by omega, by omega, hk _ ((Ex.rf.up (by simp)).up (by simp)) ((hv.home _ _).home _ _)⟩
theorem s_chainIn {d v t w s : Nat} {σ T : Sg} {k o : Int} {K : Kt} (hm : MO σ v k w o s) (hv : TV σ t T) (hw : WF T) (h1 : (w : Int) < T 0 1) (h2 : (s : Int) < T 0 0) (hk : ∀ σ', Ex [t + 7] σ σ' → TV σ' t (chM T w s) → K 0 σ') : wpCall (d + 2) iX0_chainIn [aR v, aR t] σ K := by
  obtain ⟨ht, ⟨e0, e3, e9, e10, e11⟩, eh, ew, ep⟩ := id hv
  obtain ⟨l1, l2, l3, l4, l5, l6, l7, l8⟩ := tw_len ht
  obtain ⟨⟨⟨a1, a2⟩, ⟨a3, a4⟩, ⟨a5, a6⟩, ⟨a7, a8⟩, a9⟩, wh, ww, wp⟩ := id hw
  have hnP : ((nP T : Nat) : Int) = T 0 1 := Int.toNat_of_nonneg a3
  have hnS : ((nS T : Nat) : Int) = T 0 0 := Int.toNat_of_nonneg a1
  obtain ⟨hq, f0, f1, f2, f3⟩ := hm
  have hr := mve_r hq
  have ht2 := tw_le ht
  have hv1 := hv.home w s
  have e1 : ∀ (p : Nat) (x : Int), up σ (t + 7) p x v = σ v := fun p x => up_f (by omega)
  refine bX0_chainIn ?_
  rw [f1, f3, Int.toNat_natCast, (ep w h1).2.2.2.1]
  refine ⟨ht, hq, by omega, by omega, hq, ht, s_crowdIn hv hw ?_⟩
  rw [f3, f1, Int.toNat_natCast, Int.toNat_natCast, eh s h2]
  refine ⟨ht, hq, by omega, by omega, fun q => ⟨ht, hq, hq, by omega, by omega, ?_⟩, fun q => ⟨ht, hq, hq, by omega, by omega, ?_⟩⟩
  · refine bX0_chainIn_52 (br_t2 rfl (hk _ (Ex.rf.up (by simp)) ?_))
    unfold chM
    rw [if_neg (by omega)]
    exact hv1
  · have key : ∀ n p : Nat, p + n = nP T → fstI (fun p => !decide (p = w) && decide (T 7 p = s)) (-4) n p = chP T w s → wpL (wpCall (d + 1)) mX0_chainIn K 52 [aR v, aR t, aI (T 7 w), aI 1, aI (p : Nat)] [] (up σ (t + 7) w s) := by
      intro n
      induction n with
      | zero =>
        intro p hp hf
        refine bX0_chainIn_52 (br_f2 (by decide) ⟨ht, fun h => ?_, fun h => hk _ (Ex.rf.up (by simp)) ?_⟩)
        · rw [up_ne (by omega)] at h; omega
        · unfold chM
          rw [if_neg]
          · exact hv1
          · rintro ⟨-, h⟩
            rw [← hf] at h
            simp [fstI] at h
      | succ n ih =>
        intro p hp hf
        refine bX0_chainIn_52 (br_f2 (by decide) ?_)
        rw [up_ne (show t ≠ t + 7 by omega), e1, f1, f3, Int.toNat_natCast]
        refine ⟨ht, fun h => ⟨hq, fun q2 => ?_, fun q2 => ⟨ht, by omega, by omega, hq, fun q3 => ⟨ht, by omega, by omega, hk _ ((Ex.rf.up (by simp)).up (by simp)) ?_⟩, fun q3 => ?_⟩⟩, fun h => absurd h (by omega)⟩
        · rw [wr1 (by omega)]
          refine ih (p + 1) (by omega) ?_
          rw [← hf]
          have : p = w := by omega
          simp [fstI, this]
        · have hpw : p ≠ w := by omega
          rw [up_nk hpw, (ep p (by omega)).2.2.2.1] at q3
          have hc : chP T w s = (p : Int) := by
            rw [← hf]; simp [fstI, hpw, q3]
          unfold chM
          rw [if_pos ⟨by omega, by omega⟩, hc, Int.toNat_natCast]
          exact hv1.home p (T 7 w)
        · have hpw : p ≠ w := by omega
          rw [up_nk hpw, (ep p (by omega)).2.2.2.1] at q3
          rw [wr1 (by omega)]
          refine ih (p + 1) (by omega) ?_
          rw [← hf]
          simp [fstI, q3]
    exact key (nP T) 0 (by omega) rfl
theorem s_doIn {d v t w o s : Nat} {σ T : Sg} {k : Int} {K : Kt} (hm : MO σ v k w o s) (hv : TV σ t T) (hw : WF T) (hok : okM T k w o s) (hk : ∀ σ', Ex [t + 4, t + 7] σ σ' → TV σ' t (doM T k w o s) → K 0 σ') : wpCall (d + 3) iX0_doIn [aR v, aR t] σ K := by
  obtain ⟨ht, ⟨e0, e3, e9, e10, e11⟩, eh, ew, ep⟩ := id hv
  obtain ⟨l1, l2, l3, l4, l5, l6, l7, l8⟩ := tw_len ht
  obtain ⟨⟨⟨a1, a2⟩, ⟨a3, a4⟩, ⟨a5, a6⟩, ⟨a7, a8⟩, a9⟩, wh, ww, wp⟩ := id hw
  have hnP : ((nP T : Nat) : Int) = T 0 1 := Int.toNat_of_nonneg a3
  have hnS : ((nS T : Nat) : Int) = T 0 0 := Int.toNat_of_nonneg a1
  have hm2 := hm
  obtain ⟨hq, f0, f1, f2, f3⟩ := hm2
  obtain ⟨o1, o2, o3⟩ := hok
  have hr := mve_r hq
  have ht2 := tw_le ht
  have e1 : ∀ (p : Nat) (x : Int), up σ (t + 7) p x v = σ v := fun p x => up_f (by omega)
  have e2 : ∀ (p : Nat) (x : Int), up σ (t + 7) p x (t + 3) = σ (t + 3) := fun p x => up_f (by omega)
  have i7 : ∀ a ∈ [t + 7], a ∈ [t + 4, t + 7] := by simp
  refine bX0_doIn ?_
  simp only [e1, f0, f1, f2, f3, Int.toNat_natCast]
  rw [e2, (ep w o1).1]
  refine ⟨hq, fun q => ⟨ht, hq, hq, by omega, by omega, hk _ (Ex.rf.up (by simp)) ?_⟩, fun q => ⟨hq, s_swapIn hm hv hw o1 (o2 (by omega)) (fun σ' he hv' => hk σ' (he.mono i7) ?_)⟩, fun q => ⟨hq, s_chainIn hm hv hw o1 (o3 (by omega)) (fun σ' he hv' => hk σ' (he.mono i7) ?_)⟩, fun q => ⟨hq, ht, s_crowdIn hv hw ?_⟩, fun q => ?_, fun q => ⟨ht, hq, by omega, by omega, hk _ (Ex.rf.up (by simp)) ?_⟩, fun q => ?_, fun q => hk _ Ex.rf ?_⟩
  · rw [show doM T k w o s = up T 7 w s by simp [doM, q]]; exact hv.home w s
  · rw [show doM T k w o s = up (up T 7 w (T 7 o)) 7 o (T 7 w) by simp [doM, q]]; exact hv'
  · rw [show doM T k w o s = chM T w s by simp [doM, q]]; exact hv'
  · have h3 := o3 (by omega)
    rw [f3, f1, Int.toNat_natCast, Int.toNat_natCast, eh s h3]
    refine ⟨ht, hq, by omega, by omega, fun g => ⟨ht, hq, hq, by omega, by omega, hk _ (Ex.rf.up (by simp)) ?_⟩, fun g => hk _ Ex.rf ?_⟩
    · rw [show doM T k w o s = up T 7 w s by simp [doM, q, g]]; exact hv.home w s
    · rw [show doM T k w o s = T by simp [doM, q, g]]; exact hv
  · have h3 := o3 (by omega)
    have h2 := o2 (by omega)
    refine ⟨ht, hq, hq, by omega, by omega, ht, hq, hq, by omega, by omega, hk _ ((Ex.rf.up (by simp)).up (by simp)) ?_⟩
    rw [show doM T k w o s = up (up T 7 w s) 7 o s by simp [doM, q]]
    exact (hv.home _ _).home _ _
  · rw [show doM T k w o s = up T 7 w 9 by simp [doM, q]]; exact hv.home _ _
  · refine ⟨ht, hq, hq, by omega, by omega, ht, hq, ht, hq, by omega, by omega, by omega, by omega, hk _ ((Ex.rf.up (by simp)).up (by simp)) ?_⟩
    rw [show doM T k w o s = up (up T 7 w s) 4 w (T 3 w) by simp [doM, q]]
    exact (hv.home _ _).hide _ _
  · have : doM T k w o s = T := by
      rw [doM_def]
      rw [if_neg (by omega), if_neg (by omega), if_neg (by omega), if_neg (by omega), if_neg (by omega), if_neg (by omega), if_neg (by omega)]
    rw [this]; exact hv
