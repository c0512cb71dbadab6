/-! SHELVES: refusals; wanted, judge, letters -/
theorem x_isShelf {d : Nat} {x : Int} {σ : Sg} {K : Kt} (h1 : 0 ≤ x ∧ x < 8 → K 1 σ) (h0 : ¬ (0 ≤ x ∧ x < 8) → K 0 σ) : wpCall (d + 1) iX6_isShelf [aI x] σ K :=
  bX6_isShelf ⟨fun q => ⟨by decide, h0 (by omega)⟩, fun q => ⟨fun q2 => ⟨by decide, h1 (by omega)⟩, fun q2 => ⟨by decide, h0 (by omega)⟩⟩⟩
theorem y_isShelf {d : Nat} {x : Int} {σ : Sg} {K : Kt} (h1 : 0 ≤ x ∧ x < 8 → K 1 σ) (h0 : ¬ (0 ≤ x ∧ x < 8) → K 0 σ) : wpCall (d + 2) iX7_isShelf [aI x] σ K :=
  bX7_isShelf (m_isIn (d := d) (fun q => ⟨by decide, h1 (by omega)⟩) (fun q => ⟨by decide, h0 (by omega)⟩))
theorem shf_d {d : Nat} (hd : d < 8) : SHF (61 + 3 * d) ∧ MVE (61 + 3 * d + 1) ∧ LEN (61 + 3 * d + 2) = 100 := by
  have key : ∀ d, d < 8 → CLS (61 + 3 * d) = 2 ∧ CLS (61 + 3 * d + 1) = 0 ∧ LEN (61 + 3 * d + 2) = 100 := by decide +kernel
  exact key d hd
theorem l92 : LEN 92 = 8 ∧ LEN 93 = 8 ∧ LEN 94 = 8 ∧ LEN 95 = 800 ∧ LEN 96 = 8 ∧ LEN 97 = 8 ∧ LEN 98 = 8 ∧ LEN 99 = 8 := by decide +kernel
def refK (σ : Sg) (x : Int) : Int := if 0 ≤ x ∧ x < 8 then (if σ 92 x.toNat = 0 then -11 else if σ 92 x.toNat = 1 then 0 else -12) else -1
def refR (σ : Sg) (x : Int) : Int := if 0 ≤ x ∧ x < 8 then (if σ 92 x.toNat = 0 then -11 else if σ 92 x.toNat = 2 then 0 else -12) else -1
def refB (σ : Sg) (x : Int) : Int := if refR σ x = 0 then (if σ 93 x.toNat = 0 then 0 else -12) else refR σ x
def refV (σ T : Sg) (x : Int) : Int := if refK σ x = 0 then (if thr T (σ 96 x.toNat) (σ 97 x.toNat) (σ 98 x.toNat) (σ 99 x.toNat) = true then 0 else -13) else refK σ x
theorem refK_0 {σ : Sg} {x : Int} (h : refK σ x = 0) : ∃ d : Nat, x = d ∧ d < 8 ∧ σ 92 d = 1 := by
  unfold refK at h
  by_cases q : 0 ≤ x ∧ x < 8
  · rw [if_pos q] at h
    obtain ⟨d, rfl⟩ : ∃ d : Nat, x = d := ⟨x.toNat, by omega⟩
    rw [Int.toNat_natCast] at h
    refine ⟨d, rfl, by omega, ?_⟩
    by_cases q1 : σ 92 d = 0
    · rw [if_pos q1] at h; exact absurd h (by decide)
    · rw [if_neg q1] at h
      by_cases q2 : σ 92 d = 1
      · exact q2
      · rw [if_neg q2] at h; exact absurd h (by decide)
  · rw [if_neg q] at h; exact absurd h (by decide)
theorem refR_0 {σ : Sg} {x : Int} (h : refR σ x = 0) : ∃ d : Nat, x = d ∧ d < 8 ∧ σ 92 d = 2 := by
  unfold refR at h
  by_cases q : 0 ≤ x ∧ x < 8
  · rw [if_pos q] at h
    obtain ⟨d, rfl⟩ : ∃ d : Nat, x = d := ⟨x.toNat, by omega⟩
    rw [Int.toNat_natCast] at h
    refine ⟨d, rfl, by omega, ?_⟩
    by_cases q1 : σ 92 d = 0
    · rw [if_pos q1] at h; exact absurd h (by decide)
    · rw [if_neg q1] at h
      by_cases q2 : σ 92 d = 2
      · exact q2
      · rw [if_neg q2] at h; exact absurd h (by decide)
  · rw [if_neg q] at h; exact absurd h (by decide)
theorem refB_0 {σ : Sg} {x : Int} (h : refB σ x = 0) : ∃ d : Nat, x = d ∧ d < 8 ∧ σ 92 d = 2 ∧ σ 93 d = 0 := by
  unfold refB at h
  by_cases q : refR σ x = 0
  · rw [if_pos q] at h
    obtain ⟨d, rfl, hd, h2⟩ := refR_0 q
    rw [Int.toNat_natCast] at h
    by_cases q2 : σ 93 d = 0
    · exact ⟨d, rfl, hd, h2, q2⟩
    · rw [if_neg q2] at h; exact absurd h (by decide)
  · rw [if_neg q] at h; exact absurd h q
theorem refV_0 {σ T : Sg} {x : Int} (h : refV σ T x = 0) : ∃ d : Nat, x = d ∧ d < 8 ∧ σ 92 d = 1 ∧ thr T (σ 96 d) (σ 97 d) (σ 98 d) (σ 99 d) = true := by
  unfold refV at h
  by_cases q : refK σ x = 0
  · rw [if_pos q] at h
    obtain ⟨d, rfl, hd, h2⟩ := refK_0 q
    rw [Int.toNat_natCast] at h
    by_cases q2 : thr T (σ 96 d) (σ 97 d) (σ 98 d) (σ 99 d) = true
    · exact ⟨d, rfl, hd, h2, q2⟩
    · rw [if_neg q2] at h; exact absurd h (by decide)
  · rw [if_neg q] at h; exact absurd h q
theorem SH_mv {σ : Sg} {d : Nat} (h : SH σ d) (hd : d < 8) (h1 : σ 92 d = 1) : ∃ w o s : Nat, σ 97 d = w ∧ σ 98 d = o ∧ σ 99 d = s ∧ (w ≤ 9 ∧ o ≤ 9 ∧ s ≤ 9) ∧ (0 ≤ σ 96 d ∧ σ 96 d ≤ 7) ∧ MO σ (61 + 3 * d + 1) (σ 96 d) w o s := by
  rcases h.2 with z | z | z
  · omega
  · obtain ⟨-, ⟨m0, m1, m2, m3⟩, k, w, o, s⟩ := z
    exact ⟨(σ 97 d).toNat, (σ 98 d).toNat, (σ 99 d).toNat, by omega, by omega, by omega, by omega, k, (shf_d hd).2.1, m0, by rw [m1]; omega, by rw [m2]; omega, by rw [m3]; omega⟩
  · omega
theorem SH_rw {σ : Sg} {d : Nat} (h : SH σ d) (h2 : σ 92 d = 2) : ∃ n : Nat, σ 94 d = n ∧ n ≤ 100 ∧ σ (61 + 3 * d) 2 = σ 93 d ∧ σ (61 + 3 * d) 3 = n ∧ (0 ≤ σ 93 d ∧ σ 93 d ≤ 2) ∧ (∀ i, i < 100 → σ (61 + 3 * d + 2) i = σ 95 (100 * d + i)) ∧ (σ 93 d = 0 → ∀ i, i < 100 → -128 ≤ σ 95 (100 * d + i) ∧ σ 95 (100 * d + i) ≤ 127) := by
  rcases h.2 with z | z | z
  · omega
  · omega
  · obtain ⟨-, ⟨a, b⟩, c, e, f, g⟩ := z
    exact ⟨(σ 94 d).toNat, by omega, by omega, a, by rw [b]; omega, c, f, g⟩
theorem SH_0 {σ : Sg} {d : Nat} (h : SH σ d) : σ (61 + 3 * d) 0 = σ 92 d := h.1
theorem in8 {x : Int} (h : 0 ≤ x ∧ x < 8) : ∃ d : Nat, x = d ∧ d < 8 := ⟨x.toNat, by omega, by omega⟩
theorem x_refOf1 {k : Nat} {x : Int} {σ T P : Sg} {K : Kt} (h : Inv σ T P) (hk : K (refK σ x) σ) : wpCall (k + 2) iX6_refusalOf [aR 45, aI x, aI 1] σ K := by
  unfold refK at hk
  refine bX6_refusalOf (x_isShelf (fun g => br_f2 (by decide) ?_) (fun g => br_t2 rfl (by rw [if_neg g] at hk; exact hk)))
  rw [if_pos g] at hk
  obtain ⟨d, rfl, hd⟩ := in8 g
  rw [Int.toNat_natCast] at hk ⊢
  rw [SH_0 (h.2.2.2 d hd)]
  refine ⟨by omega, by omega, (shf_d hd).1, fun q => ?_, fun q => ⟨by omega, by omega, (shf_d hd).1, fun q2 => ?_, fun q2 => ?_⟩⟩
  · rw [if_pos q] at hk; exact hk
  · rw [if_neg q, if_pos q2] at hk; exact hk
  · rw [if_neg q, if_neg q2] at hk; exact hk
theorem x_refOf2 {k : Nat} {x : Int} {σ T P : Sg} {K : Kt} (h : Inv σ T P) (hk : K (refR σ x) σ) : wpCall (k + 2) iX6_refusalOf [aR 45, aI x, aI 2] σ K := by
  unfold refR at hk
  refine bX6_refusalOf (x_isShelf (fun g => br_f2 (by decide) ?_) (fun g => br_t2 rfl (by rw [if_neg g] at hk; exact hk)))
  rw [if_pos g] at hk
  obtain ⟨d, rfl, hd⟩ := in8 g
  rw [Int.toNat_natCast] at hk ⊢
  rw [SH_0 (h.2.2.2 d hd)]
  refine ⟨by omega, by omega, (shf_d hd).1, fun q => ?_, fun q => ⟨by omega, by omega, (shf_d hd).1, fun q2 => ?_, fun q2 => ?_⟩⟩
  · rw [if_pos q] at hk; exact hk
  · rw [if_neg q, if_pos q2] at hk; exact hk
  · rw [if_neg q, if_neg q2] at hk; exact hk
theorem x_refBytes {k : Nat} {x : Int} {σ T P : Sg} {K : Kt} (h : Inv σ T P) (hk : K (refB σ x) σ) : wpCall (k + 3) iX6_refusalOfBytes [aR 45, aI x] σ K := by
  unfold refB at hk
  refine bX6_refusalOfBytes (x_refOf2 h ⟨fun q => ?_, fun q => ?_⟩)
  · rw [if_pos q] at hk
    obtain ⟨d, rfl, hd, h2⟩ := refR_0 q
    obtain ⟨n, -, -, e2, -⟩ := SH_rw (h.2.2.2 d hd) h2
    rw [Int.toNat_natCast] at hk ⊢
    rw [e2, q]
    refine ⟨by omega, by omega, (shf_d hd).1, fun q2 => ?_, fun q2 => ?_⟩
    · rw [if_pos q2] at hk; exact hk
    · rw [if_neg q2] at hk; exact hk
  · rw [if_neg q] at hk; exact hk
theorem x_refDoing {k : Nat} {x : Int} {σ T P : Sg} {K : Kt} (h : Inv σ T P) (hk : K (refV σ T x) σ) : wpCall (k + 3) iX6_refusalOfDoing [aR 45, aI x] σ K := by
  obtain ⟨m, hw, hv, hx⟩ := h.p
  unfold refV at hk
  refine bX6_refusalOfDoing (x_refOf1 h ⟨fun q => ?_, fun q => ?_⟩)
  · rw [if_pos q] at hk
    obtain ⟨d, rfl, hd, h2⟩ := refK_0 q
    obtain ⟨w, o, s, ew, eo, es, -, -, hm⟩ := SH_mv (h.2.2.2 d hd) hd h2
    rw [Int.toNat_natCast] at hk ⊢
    rw [ew, eo, es] at hk
    rw [q]
    refine ⟨by omega, by omega, (shf_d hd).1, (shf_d hd).2.1, s_isThereIn hm hv (fun z => br_f2 (by decide) ?_) (fun z => br_t2 rfl ?_)⟩
    · rw [if_pos z] at hk; exact hk
    · rw [if_neg (by rw [z]; decide)] at hk; exact hk
  · rw [if_neg q] at hk; exact hk
theorem y_wrongKept {k : Nat} {x : Int} {σ : Sg} {K : Kt} (hk : K (refK σ x) σ) : wpCall (k + 3) iX7_wrongKept [aR 85, aI x] σ K := by
  unfold refK at hk
  refine bX7_wrongKept (y_isShelf (fun g => br_f2 (by decide) ?_) (fun g => br_t2 rfl (by rw [if_neg g] at hk; exact hk)))
  have := l92
  rw [if_pos g] at hk
  refine ⟨by omega, by omega, fun q => ?_, fun q => ⟨by omega, by omega, fun q2 => ?_, fun q2 => ?_⟩⟩
  · rw [if_pos q] at hk; exact hk
  · rw [if_neg q, if_pos q2] at hk; exact hk
  · rw [if_neg q, if_neg q2] at hk; exact hk
theorem y_wrongRow {k : Nat} {x o : Int} {σ : Sg} {K : Kt} (ho : o = 0 ∨ o = -1) (hk : K (if o = 0 then refB σ x else refR σ x) σ) : wpCall (k + 3) iX7_wrongRow [aR 85, aI x, aI o] σ K := by
  have hR : refR σ x ≠ 0 → K (refR σ x) σ := fun q => kq hk (by
    unfold refB
    rw [if_neg q]; split <;> rfl)
  have := l92
  refine bX7_wrongRow (y_isShelf (fun g => br_f2 (by decide) ⟨by omega, by omega, fun q => ?_, fun q => ⟨by omega, by omega, fun q2 => ⟨fun q3 => ?_, fun q3 => ⟨by omega, by omega, fun q4 => ?_, fun q4 => ?_⟩⟩, fun q2 => ?_⟩⟩) (fun g => br_t2 rfl ?_))
  · have e : refR σ x = -11 := by unfold refR; rw [if_pos g, if_pos q]
    rw [e] at hR; exact hR (by decide)
  · have e : refR σ x = 0 := by unfold refR; rw [if_pos g, if_neg q, if_pos q2]
    rw [if_neg (by omega), e] at hk; exact hk
  · have e : refR σ x = 0 := by unfold refR; rw [if_pos g, if_neg q, if_pos q2]
    unfold refB at hk
    rw [if_pos (by omega), if_pos e, if_pos (by omega)] at hk; exact hk
  · have e : refR σ x = 0 := by unfold refR; rw [if_pos g, if_neg q, if_pos q2]
    unfold refB at hk
    rw [if_pos (by omega), if_pos e, if_neg (by omega)] at hk; exact hk
  · have e : refR σ x = -12 := by unfold refR; rw [if_pos g, if_neg q, if_neg q2]
    rw [e] at hR; exact hR (by decide)
  · have e : refR σ x = -1 := by unfold refR; rw [if_neg g]
    rw [e] at hR; exact hR (by decide)
theorem y_wantsTo {d : Nat} {x : Int} {σ : Sg} {K : Kt} (h1 : ¬ (x = 0 ∨ x = 6 ∨ x = 2) → K 1 σ) (h0 : x = 0 ∨ x = 6 ∨ x = 2 → K 0 σ) : wpCall (d + 1) iX7_wantsTo [aR 85, aI x] σ K :=
  bX7_wantsTo ⟨fun q => ⟨by decide, h0 (by omega)⟩, fun q => ⟨fun q2 => ⟨by decide, h0 (by omega)⟩, fun q2 => ⟨fun q3 => ⟨by decide, h0 (by omega)⟩, fun q3 => ⟨by decide, h1 (by omega)⟩⟩⟩⟩
theorem y_wrongMove {k : Nat} {x : Int} {σ T : Sg} {K : Kt} (m : MR σ T) (hw : WF T) (hk : K (refV σ T x) σ) : wpCall (k + 3) iX7_wrongMove [aR 85, aI x] σ K := by
  have := l92
  unfold refV at hk
  have hK : refK σ x ≠ 0 → K (refK σ x) σ := fun q => kq hk (by rw [if_neg q])
  refine bX7_wrongMove (y_isShelf (fun g => br_f2 (by decide) ⟨by omega, by omega, fun q => ?_, fun q => ⟨by omega, by omega, fun q2 => ⟨by omega, by omega, by omega, by omega, ?_⟩, fun q2 => ?_⟩⟩) (fun g => br_t2 rfl ?_))
  · have e : refK σ x = -11 := by unfold refK; rw [if_pos g, if_pos q]
    rw [e] at hK; exact hK (by decide)
  · have e : refK σ x = 0 := by unfold refK; rw [if_pos g, if_neg q, if_pos q2]
    rw [if_pos e] at hk
    obtain ⟨d, rfl, hd⟩ := in8 g
    rw [Int.toNat_natCast] at hk ⊢
    have bad : thr T (σ 96 d) (σ 97 d) (σ 98 d) (σ 99 d) = false → K (-13) σ := fun z => by
      rw [if_neg (by rw [z]; decide)] at hk; exact hk
    have good : thr T (σ 96 d) (σ 97 d) (σ 98 d) (σ 99 d) = true → K 0 σ := fun z => by
      rw [if_pos z] at hk; exact hk
    have k64 : inP T (σ 97 d) → (σ 96 d = 2 ∨ σ 96 d = 5) → wpL (wpCall (k + 2)) mX7_wrongMove K 64 [aR 85, aI (d : Nat), aI (σ 96 d), aU] [] σ := fun gw g25 => by
      refine bX7_wrongMove_64 ?_
      rw [Int.toNat_natCast]
      refine ⟨by omega, by omega, m_isOne (d := k) m.1 hw (fun go => br_f2 (by decide) (y_wantsTo (d := k + 1) (fun gt => br_f2 (by decide) ⟨by omega, by omega, m_isStreet (d := k) m.1 hw (fun gs => br_f2 (by decide) (br_f2 (by decide) (good ?_))) (fun gs => br_t2 rfl (br_t2 rfl (bad ?_)))⟩) (fun gt => br_t2 rfl (br_f2 (by decide) (good ?_))))) (fun go => br_t2 rfl (br_t2 rfl (bad ?_)))⟩
      · simp [thr, gw, go, gs]
      · simp only [thr, decide_eq_true gw, decide_eq_false gt, decide_eq_false gs]; simp
      · simp only [thr, decide_eq_true gw, decide_eq_true go, decide_eq_true gt]; simp
      · simp only [thr, decide_eq_true gw, decide_eq_true g25, decide_eq_false go]; simp
    refine m_isOne (d := k) m.1 hw (fun gw => br_f2 (by decide) ⟨fun z => k64 gw (Or.inl z), fun z => ⟨fun z2 => k64 gw (Or.inr z2), fun z2 => y_wantsTo (d := k + 1) (fun gt => br_f2 (by decide) ⟨by omega, by omega, m_isStreet (d := k) m.1 hw (fun gs => br_f2 (by decide) (br_f2 (by decide) (good ?_))) (fun gs => br_t2 rfl (br_t2 rfl (bad ?_)))⟩) (fun gt => br_t2 rfl (br_f2 (by decide) (good ?_)))⟩⟩) (fun gw => br_t2 rfl (br_t2 rfl (bad ?_)))
    · simp only [thr, decide_eq_true gw, decide_eq_false (show ¬ (σ 96 d = 2 ∨ σ 96 d = 5) by omega), decide_eq_true gs]; simp
    · simp only [thr, decide_eq_true gw, decide_eq_false (show ¬ (σ 96 d = 2 ∨ σ 96 d = 5) by omega), decide_eq_false gt, decide_eq_false gs]; simp
    · simp only [thr, decide_eq_true gw, decide_eq_false (show ¬ (σ 96 d = 2 ∨ σ 96 d = 5) by omega), decide_eq_true gt]; simp
    · simp only [thr, decide_eq_false gw]; simp
  · have e : refK σ x = -12 := by unfold refK; rw [if_pos g, if_neg q, if_neg q2]
    rw [e] at hK; exact hK (by decide)
  · have e : refK σ x = -1 := by unfold refK; rw [if_neg g]
    rw [e] at hK; exact hK (by decide)
theorem thr_ok {T : Sg} {k : Int} {w o s : Nat} (h : thr T k w o s = true) : okM T k w o s := by
  unfold thr at h
  simp only [Bool.and_eq_true, Bool.or_eq_true, Bool.not_eq_true', decide_eq_true_eq, decide_eq_false_iff_not] at h
  exact ⟨by omega, fun z => by omega, fun z => by omega⟩
theorem EQs {mx mm : Nat} {as : List Av} (hm : mm ≠ iX7_image) (f : Sg → Sg → Int) (hf : ∀ σ σ1 T, (∀ a, 92 ≤ a → a < 100 → ∀ k, σ1 a k = σ a k) → f σ1 T = f σ T) (hx : ∀ σ T P K, Inv σ T P → (∀ σ', Ex LX σ σ' → K (f σ T) σ') → wpCall 20 mx (aR 45 :: as) σ K) (hy : ∀ σ T P K, Inv σ T P → (∀ σ', Ex LM σ σ' → MR σ' T → K (f σ T) σ') → wpCall 20 mm (aR 85 :: as) σ K) : EQ mx mm as := fun σ T P h =>
  hx σ T P _ h (fun σ1 e1 => keep14 hm (hy σ1 T P _ (h.x e1) (fun σ2 e2 m2 h14 => ⟨(hf σ σ1 T (fun a h1 h2 k => e1 a (NT_no NT_X (by omega)) k)).symm, T, P, (h.x e1).m e2 m2 h14⟩)))
def moV (σ T : Sg) (d : Nat) : Sg := doM T (σ 96 d) (σ 97 d).toNat (σ 98 d).toNat (σ 99 d).toNat
def wantF (y : Int) (x : Int) (σ T : Sg) : Int := if 0 ≤ y ∧ y ≤ 1 then (if refV σ T x = 0 then (if y = 0 then b2i (wnt T (moV σ T x.toNat) (!decide (σ 96 x.toNat = 6))) else b2i (lawful (moV σ T x.toNat))) else refV σ T x) else -1
theorem refK_cg {σ σ1 : Sg} {x : Int} (h : ∀ a, 92 ≤ a → a < 100 → ∀ k, σ1 a k = σ a k) : refK σ1 x = refK σ x := by unfold refK; rw [h 92 (by omega) (by omega)]
theorem refR_cg {σ σ1 : Sg} {x : Int} (h : ∀ a, 92 ≤ a → a < 100 → ∀ k, σ1 a k = σ a k) : refR σ1 x = refR σ x := by unfold refR; rw [h 92 (by omega) (by omega)]
theorem refB_cg {σ σ1 : Sg} {x : Int} (h : ∀ a, 92 ≤ a → a < 100 → ∀ k, σ1 a k = σ a k) : refB σ1 x = refB σ x := by unfold refB; rw [refR_cg h, h 93 (by omega) (by omega)]
theorem refV_cg {σ σ1 T : Sg} {x : Int} (h : ∀ a, 92 ≤ a → a < 100 → ∀ k, σ1 a k = σ a k) : refV σ1 T x = refV σ T x := by unfold refV; rw [refK_cg h, h 96 (by omega) (by omega), h 97 (by omega) (by omega), h 98 (by omega) (by omega), h 99 (by omega) (by omega)]
theorem moV_cg {σ σ1 T : Sg} {d : Nat} (h : ∀ a, 92 ≤ a → a < 100 → ∀ k, σ1 a k = σ a k) : moV σ1 T d = moV σ T d := by unfold moV; rw [h 96 (by omega) (by omega), h 97 (by omega) (by omega), h 98 (by omega) (by omega), h 99 (by omega) (by omega)]
theorem moV_n {σ T : Sg} {d w o s : Nat} (ew : σ 97 d = w) (eo : σ 98 d = o) (es : σ 99 d = s) : moV σ T d = doM T (σ 96 d) w o s := by unfold moV; rw [ew, eo, es]; rfl
theorem eq_wanted {x y : Int} : EQ iX6_wanted iX7_wanted [aI x, aI y] := by
  refine EQs (by decide) (wantF y x) (fun σ σ1 T c => ?_) (fun σ T P K h hk => ?_) (fun σ T P K h hk => ?_)
  · unfold wantF
    rw [refV_cg c, moV_cg c, c 96 (by omega) (by omega)]
  · obtain ⟨m, hw, hv, hx⟩ := h.p
    unfold wantF at hk
    have no : ¬ (0 ≤ y ∧ y ≤ 1) → K (-1) σ := fun q => by
      have := hk σ Ex.rf
      rw [if_neg q] at this; exact this
    refine bX6_wanted ⟨fun q => no (by omega), fun q => ⟨fun q2 => no (by omega), fun q2 => x_refDoing h ⟨fun q3 => ?_, fun q3 => ?_⟩⟩⟩
    · rw [if_pos (by omega), if_pos q3] at hk
      obtain ⟨d, rfl, hd, h2, ht⟩ := refV_0 q3
      obtain ⟨w, o, s, ew, eo, es, -, -, hm⟩ := SH_mv (h.2.2.2 d hd) hd h2
      rw [ew, eo, es] at ht
      rw [Int.toNat_natCast, moV_n ew eo es] at hk
      rw [Int.toNat_natCast]
      refine ⟨by omega, by omega, (shf_d hd).1, fun q4 => s_isWanted hm hv hw (by decide) (thr_ok ht) (fun σ1 e => x_oneIf ?_), fun q4 => s_mayBe hm hv hw (by decide) (thr_ok ht) (fun σ1 e => x_oneIf ?_)⟩
      · have := hk σ1 (e.mono (by simp))
        rw [if_pos q4] at this; exact this
      · have := hk σ1 (e.mono (by simp))
        rw [if_neg q4] at this; exact this
    · have := hk σ Ex.rf
      rw [if_pos (by omega), if_neg q3] at this; exact this
  · obtain ⟨m, hw, hv, hx⟩ := h.p
    have := l92
    unfold wantF at hk
    refine bX7_wanted (y_isShelf (fun g => br_f2 (by decide) (m_isIn (fun gy => br_f2 (by decide) (y_wrongMove m hw ⟨fun q3 => ?_, fun q3 => ?_⟩)) (fun gy => br_t2 rfl ?_))) (fun g => br_t2 rfl ?_))
    · rw [if_pos gy, if_pos q3] at hk
      obtain ⟨d, rfl, hd, h2, ht⟩ := refV_0 q3
      obtain ⟨w, o, s, ew, eo, es, -, -, hm⟩ := SH_mv (h.2.2.2 d hd) hd h2
      rw [ew, eo, es] at ht
      rw [Int.toNat_natCast, moV_n ew eo es] at hk
      rw [Int.toNat_natCast, ew, eo, es]
      refine ⟨by omega, by omega, by omega, by omega, by omega, by omega, by omega, by omega, m_tries (d := 13) m hw (thr_ok ht) (fun σ1 e1 hf1 h90 m1 h24 h25 h26 => m_putsBack (d := 17) h90 m hw (fun σ2 e2 hi2 m2 => ?_))⟩
      have hk := hk σ2 ((e1.mono (l := LM) (by simp)).tr e2 (fun _ h => h) (by simp)) m2
      rw [e2 85 (by simp), e2 85 (by simp), h24, h25]
      refine ⟨fun q4 => ?_, fun q4 => ?_⟩
      · rw [if_pos q4] at hk
        exact g2 (b := wnt T (doM T (σ 96 d) w o s) (!decide (σ 96 d = 6))) (fun z => by rw [z] at hk; exact hk) (fun z => by rw [z] at hk; exact hk)
      · rw [if_neg q4] at hk
        exact g2 (b := lawful (doM T (σ 96 d) w o s)) (fun z => by rw [z] at hk; exact hk) (fun z => by rw [z] at hk; exact hk)
    · have := hk σ Ex.rf m
      rw [if_pos gy, if_neg q3] at this; exact this
    · have := hk σ Ex.rf m
      rw [if_neg gy] at this; exact this
    · have := hk σ Ex.rf m
      have e : refK σ x = -1 := by unfold refK; rw [if_neg g]
      have e2 : refV σ T x = -1 := by unfold refV; rw [e]; rfl
      rw [e2] at this
      by_cases z : 0 ≤ y ∧ y ≤ 1
      · rw [if_pos z, if_neg (by decide)] at this; exact this
      · rw [if_neg z] at this; exact this
theorem jdF_cg {b b' : Nat → Int} {n : Nat} (h : ∀ i, i < n → b i = b' i) : ∀ k T i, jdF b n k T i = jdF b' n k T i
  | 0, _, _ => rfl
  | k + 1, T, i => by
    rw [jdF_s, jdF_s]
    by_cases q : i + 1 < n
    · rw [if_pos q, if_pos q, h i (by omega), h (i + 1) q, jdF_cg h k]
    · rw [if_neg q, if_neg q]
def judF (x : Int) (σ T : Sg) : Int := if refB σ x = 0 then jdF (fun i => σ 95 (100 * x.toNat + i)) (σ 94 x.toNat).toNat ((σ 94 x.toNat).toNat + 1) T 0 else refB σ x
theorem eq_judge {x : Int} : EQ iX6_judge iX7_judge [aI x] := by
  refine EQs (by decide) (judF x) (fun σ σ1 T c => ?_) (fun σ T P K h hk => ?_) (fun σ T P K h hk => ?_)
  · unfold judF
    rw [refB_cg c, c 94 (by omega) (by omega)]
    congr 2
    funext i
    exact c 95 (by omega) (by omega) _
  · obtain ⟨m, hw, hv, hx⟩ := h.p
    unfold judF at hk
    refine bX6_judge (x_refBytes h ⟨fun q => ?_, fun q => ?_⟩)
    · rw [if_pos q] at hk
      obtain ⟨d, rfl, hd, h2, h3⟩ := refB_0 q
      obtain ⟨n, en, hn, e2, e3, -, f, -⟩ := SH_rw (h.2.2.2 d hd) h2
      rw [Int.toNat_natCast, en, Int.toNat_natCast] at hk
      rw [Int.toNat_natCast]
      refine ⟨by omega, by omega, s_firstMisjudged hv hw (by decide) (shf_d hd).1 e3 hn (fun σ1 e => kq (hk σ1 (e.mono (by simp))) (jdF_cg (fun i hi => f i (by omega)) _ _ _))⟩
    · have := hk σ Ex.rf
      rw [if_neg q] at this; exact this
  · obtain ⟨m, hw, hv, hx⟩ := h.p
    have l86 : LEN 86 = 107 := rfl
    have l89 : LEN 89 = 107 := rfl
    unfold judF at hk
    refine bX7_judge (y_wrongRow (Or.inl rfl) ?_)
    rw [if_pos rfl]
    refine ⟨fun q => m_copies (d := 18) l86 l89 (by omega) (fun σ1 e1 hi1 => ?_), fun q => ?_⟩
    · rw [if_pos q] at hk
      obtain ⟨d, rfl, hd, h2, h3⟩ := refB_0 q
      obtain ⟨n, en, hn, e2, e3, -, f, -⟩ := SH_rw (h.2.2.2 d hd) h2
      rw [Int.toNat_natCast, en, Int.toNat_natCast] at hk
      exact m_judge30 (d := 13) m hw hd hn en (fun i _ => rfl) (m.ex e1 (by simp)) (e1.mono (by simp)) hi1 (fun σ2 e m2 => hk σ2 (e.mono (by simp)) m2)
    · have := hk σ Ex.rf m
      rw [if_neg q] at this; exact this
def letF (x : Int) (σ T : Sg) : Int := if refK σ x = 0 then lett (σ 96 x.toNat) (σ 97 x.toNat) (σ 98 x.toNat) (σ 99 x.toNat) else refK σ x
theorem y_lettersOf {k d : Nat} {σ : Sg} {K : Kt} (h : SH σ d) (hd : d < 8) (h1 : σ 92 d = 1) (hk : K (lett (σ 96 d) (σ 97 d) (σ 98 d) (σ 99 d)) σ) : wpCall (k + 2) iX7_lettersOf [aR 85, aI (d : Nat)] σ K := by
  have := l92
  obtain ⟨w, o, s, ew, eo, es, r9, r7, hm⟩ := SH_mv h hd h1
  refine bX7_lettersOf ?_
  rw [Int.toNat_natCast]
  refine ⟨by omega, by omega, by omega, by omega, by omega, by omega, by omega, by omega, bX7_lettersBy ?_⟩
  unfold lett at hk
  rw [ew, eo, es] at hk ⊢
  refine ⟨fun q => ?_, fun q => ?_, fun q => ?_, fun q => ?_, fun q => ?_, fun q => ?_, fun q => ?_, fun q => ?_⟩
  · rw [if_pos q] at hk; exact hk
  · rw [if_neg (by omega), if_pos q] at hk; exact hk
  · rw [if_neg (by omega), if_neg (by omega), if_pos q] at hk; exact kq hk (wr_id ⟨by omega, by omega⟩)
  · rw [if_neg (by omega), if_neg (by omega), if_neg (by omega), if_pos q] at hk; exact hk
  · rw [if_neg (by omega), if_neg (by omega), if_neg (by omega), if_neg (by omega), if_pos q] at hk; exact kq hk (wr_id ⟨by omega, by omega⟩)
  · rw [if_neg (by omega), if_neg (by omega), if_neg (by omega), if_neg (by omega), if_neg (by omega), if_pos q] at hk; exact hk
  · rw [if_neg (by omega), if_neg (by omega), if_neg (by omega), if_neg (by omega), if_neg (by omega), if_neg (by omega), if_pos q] at hk; exact kq hk (wr_id ⟨by omega, by omega⟩)
  · rw [if_neg (by omega), if_neg (by omega), if_neg (by omega), if_neg (by omega), if_neg (by omega), if_neg (by omega), if_neg (by omega)] at hk; exact hk
theorem eq_letters {x : Int} : EQ iX6_letters iX7_letters [aI x] := by
  refine EQs (by decide) (letF x) (fun σ σ1 T c => ?_) (fun σ T P K h hk => ?_) (fun σ T P K h hk => ?_)
  · unfold letF
    rw [refK_cg c, c 96 (by omega) (by omega), c 97 (by omega) (by omega), c 98 (by omega) (by omega), c 99 (by omega) (by omega)]
  · unfold letF at hk
    have hk := hk σ Ex.rf
    refine bX6_letters (x_refOf1 h ⟨fun q => ?_, fun q => ?_⟩)
    · rw [if_pos q] at hk
      obtain ⟨d, rfl, hd, h2⟩ := refK_0 q
      obtain ⟨w, o, s, ew, eo, es, r9, r7, hm⟩ := SH_mv (h.2.2.2 d hd) hd h2
      rw [Int.toNat_natCast, ew, eo, es] at hk
      rw [Int.toNat_natCast]
      exact ⟨by omega, by omega, (shf_d hd).1, (shf_d hd).2.1, s_letterCount hm (by omega) hk⟩
    · rw [if_neg q] at hk; exact hk
  · unfold letF at hk
    have hk := hk σ Ex.rf h.1
    refine bX7_letters (y_wrongKept ⟨fun q => ?_, fun q => ?_⟩)
    · rw [if_pos q] at hk
      obtain ⟨d, rfl, hd, h2⟩ := refK_0 q
      exact y_lettersOf (h.2.2.2 d hd) hd h2 hk
    · rw [if_neg q] at hk; exact hk
