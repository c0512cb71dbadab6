/-! WHAT CHANGES SHELVES -/
def ShF (d : Nat) (σ σ' : Sg) : Prop := (∀ a, ¬ (a = 61 + 3 * d ∨ a = 61 + 3 * d + 1 ∨ a = 61 + 3 * d + 2 ∨ (92 ≤ a ∧ a < 100)) → ∀ k, σ' a k = σ a k) ∧ (∀ a, 92 ≤ a → a < 100 → a ≠ 95 → ∀ k, k ≠ d → σ' a k = σ a k) ∧ ∀ j, ¬ (100 * d ≤ j ∧ j < 100 * d + 100) → σ' 95 j = σ 95 j
theorem ShF.rf {d : Nat} {σ : Sg} : ShF d σ σ := ⟨fun _ _ _ => rfl, fun _ _ _ _ _ _ => rfl, fun _ _ => rfl⟩
theorem ShF.upc {d a k : Nat} {v : Int} {σ σ1 : Sg} (h : ShF d σ σ1) (hd : d < 8) (ha : a = 61 + 3 * d ∨ a = 61 + 3 * d + 1 ∨ a = 61 + 3 * d + 2) : ShF d σ (up σ1 a k v) :=
  ⟨fun b hb k => by rw [up_ne (by omega)]; exact h.1 b hb k, fun b h1 h2 h3 k hk => by rw [up_ne (by omega)]; exact h.2.1 b h1 h2 h3 k hk, fun j hj => by rw [up_ne (by omega)]; exact h.2.2 j hj⟩
theorem ShF.upm {d a : Nat} {v : Int} {σ σ1 : Sg} (h : ShF d σ σ1) (ha : 92 ≤ a ∧ a < 100 ∧ a ≠ 95) : ShF d σ (up σ1 a d v) :=
  ⟨fun b hb k => by rw [up_ne (by omega)]; exact h.1 b hb k, fun b h1 h2 h3 k hk => by rw [up_nk hk]; exact h.2.1 b h1 h2 h3 k hk, fun j hj => by rw [up_ne (by omega)]; exact h.2.2 j hj⟩
theorem ShF.up95 {d i : Nat} {v : Int} {σ σ1 : Sg} (h : ShF d σ σ1) (hi : i < 100) : ShF d σ (up σ1 95 (100 * d + i) v) :=
  ⟨fun b hb k => by rw [up_ne (by omega)]; exact h.1 b hb k, fun b h1 h2 h3 k hk => by rw [up_ne h3]; exact h.2.1 b h1 h2 h3 k hk, fun j hj => by rw [up_nk (by omega)]; exact h.2.2 j hj⟩
theorem ShF.exc {d : Nat} {l : List Nat} {σ σ1 σ2 : Sg} (h : ShF d σ σ1) (hd : d < 8) (e : Ex l σ1 σ2) (hl : ∀ a ∈ l, a = 61 + 3 * d ∨ a = 61 + 3 * d + 1 ∨ a = 61 + 3 * d + 2) : ShF d σ σ2 :=
  ⟨fun b hb k => (e b (fun z => by have := hl b z; omega) k).trans (h.1 b hb k), fun b h1 h2 h3 k hk => (e b (fun z => by have := hl b z; omega) k).trans (h.2.1 b h1 h2 h3 k hk), fun j hj => (e 95 (fun z => by have := hl 95 z; omega) j).trans (h.2.2 j hj)⟩
theorem Inv.sh {σ σ' T P : Sg} {d : Nat} (h : Inv σ T P) (hd : d < 8) (f : ShF d σ σ') (hs : SH σ' d) : Inv σ' T P := by
  obtain ⟨m, ⟨hw, hv, hx⟩, hp, hss⟩ := h
  have e : Ex [61 + 3 * d, 61 + 3 * d + 1, 61 + 3 * d + 2, 92, 93, 94, 95, 96, 97, 98, 99] σ σ' := fun a ha k => f.1 a (fun z => ha (by simp only [List.mem_cons, List.not_mem_nil, or_false]; omega)) k
  have no : ∀ a, ¬ (61 ≤ a ∧ a < 85) → ¬ (92 ≤ a ∧ a < 100) → a ∉ [61 + 3 * d, 61 + 3 * d + 1, 61 + 3 * d + 2, 92, 93, 94, 95, 96, 97, 98, 99] := fun a h1 h2 z => by
    simp only [List.mem_cons, List.not_mem_nil, or_false] at z
    omega
  refine ⟨m.ex e (no _ (by omega) (by omega)), ⟨hw, hv.ex e (fun i hi => no _ (by omega) (by omega)), hx.ex e (no _ (by omega) (by omega))⟩, ?_, fun d' hd' => ?_⟩
  · rw [e 45 (no _ (by omega) (by omega)) 7, e 85 (no _ (by omega) (by omega)) 14]
    refine hp.imp id (fun z => ⟨z.1, z.2.1, ?_⟩)
    obtain ⟨h1, h2, h3, h4⟩ := z.2.2
    exact ⟨h1, h2.ex e (fun i hi => no _ (by omega) (by omega)), ⟨h3.1.ex (fun k => e 87 (no _ (by omega) (by omega)) k), h3.2.ex (fun k => e 87 (no _ (by omega) (by omega)) k)⟩, h4.ex e (no _ (by omega) (by omega))⟩
  · by_cases q : d' = d
    · rw [q]; exact hs
    · exact (hss d' hd').cg (fun k => f.1 _ (by omega) k) (fun k => f.1 _ (by omega) k) (fun k => f.1 _ (by omega) k) (fun a h1 h2 h3 => f.2.1 a h1 h2 h3 d' q) (fun i hi => f.2.2 _ (by omega))
theorem eq_keep {x w k v : Int} : EQ iX6_keep iX7_keep [aI x, aI w, aI k, aI v] := by
  intro σ T P h
  have := l92
  have dead : ¬ ((0 ≤ x ∧ x < 8) ∧ (w = 0 ∨ (w = 1 ∧ (0 ≤ k ∧ k ≤ 7) ∧ (0 ≤ v ∧ v ≤ 999)))) → wpCall 20 iX7_keep [aR 85, aI x, aI w, aI k, aI v] σ (fun r' σ2 => -1 = r' ∧ ∃ T' P', Inv σ2 T' P') := fun q =>
    bX7_keep (y_isShelf (fun g => br_f2 (by decide) (m_isIn (fun g1 => br_f2 (by decide) ⟨fun g2 => m_isIn (fun g3 => br_f2 (by decide) (m_isIn (fun g4 => absurd ⟨g, Or.inr ⟨g2, g3, g4⟩⟩ q) (fun _ => br_t2 rfl ⟨rfl, T, P, h⟩))) (fun _ => br_t2 rfl ⟨rfl, T, P, h⟩), fun g2 => absurd ⟨g, Or.inl (by omega)⟩ q⟩) (fun _ => br_t2 rfl ⟨rfl, T, P, h⟩))) (fun _ => br_t2 rfl ⟨rfl, T, P, h⟩))
  refine bX6_keep (x_isShelf (fun g => br_f2 (by decide) ⟨fun q => ?_, fun q => ⟨fun q1 => ⟨fun z => dead (by omega), fun z1 => ⟨fun z => dead (by omega), fun z2 => ⟨fun z => dead (by omega), fun z3 => ⟨fun z => dead (by omega), fun z4 => ?_⟩⟩⟩⟩, fun q1 => dead (by omega)⟩⟩) (fun g => br_t2 rfl (dead (by omega))))
  · obtain ⟨d, rfl, hd⟩ := in8 g
    rw [Int.toNat_natCast]
    refine ⟨by omega, by omega, (shf_d hd).1, bX7_keep (y_isShelf (fun _ => br_f2 (by decide) (m_isIn (fun _ => br_f2 (by decide) ⟨fun z => by omega, fun _ => ?_⟩) (fun z => absurd (by omega) z))) (fun z => absurd g z))⟩
    rw [Int.toNat_natCast]
    refine ⟨by omega, by omega, by omega, by omega, by decide, by omega, by omega, by decide, by decide, by omega, by omega, by decide, by omega, by omega, rfl, T, P, h.sh hd ((((((ShF.rf.upc hd (Or.inl rfl)).upm (by omega)).upm (by omega)).upm (by omega)).upm (by omega)).upm (by omega)) ?_⟩
    refine ⟨?_, Or.inl ?_⟩
    · rw [up_ne (by omega), up_ne (by omega), up_ne (by omega), up_ne (by omega), up_ne (by omega), up_self, up_ne (by omega), up_ne (by omega), up_ne (by omega), up_ne (by omega), up_self, q]
    · rw [up_ne (by omega), up_ne (by omega), up_ne (by omega), up_ne (by omega), up_self, q]
  · obtain ⟨d, rfl, hd⟩ := in8 g
    obtain ⟨u, rfl⟩ : ∃ u : Nat, v = u := ⟨v.toNat, by omega⟩
    have e1 : wr ((u : Int).tdiv 100) = ((u / 100 : Nat) : Int) := by
      have : (u : Int).tdiv 100 = ((u / 100 : Nat) : Int) := rfl
      rw [this, wr_id ⟨by omega, by omega⟩]
    have e2 : (wr ((u : Int).tdiv 10)).tmod 10 = ((u / 10 % 10 : Nat) : Int) := by
      have : (u : Int).tdiv 10 = ((u / 10 : Nat) : Int) := rfl
      rw [this, wr_id ⟨by omega, by omega⟩]; rfl
    have e3 : (u : Int).tmod 10 = ((u % 10 : Nat) : Int) := rfl
    rw [Int.toNat_natCast, e1, e2, e3]
    refine ⟨by omega, by omega, (shf_d hd).1, by decide, by decide, by decide, by decide, (shf_d hd).2.1, s_moveBecome (shf_d hd).2.1 (fun σ1 he hm => ⟨by omega, by omega, (shf_d hd).1, bX7_keep (y_isShelf (fun _ => br_f2 (by decide) (m_isIn (fun _ => br_f2 (by decide) ⟨fun _ => m_isIn (fun _ => br_f2 (by decide) (m_isIn (fun _ => br_f2 (by decide) ?_) (fun z => absurd (by omega) z))) (fun z => absurd (by omega) z), fun z => absurd q1 z⟩) (fun z => absurd (by omega) z))) (fun z => absurd g z))⟩)⟩
    rw [Int.toNat_natCast, e1, e2, e3]
    refine ⟨by omega, by omega, by omega, by omega, by decide, by omega, by omega, by decide, by decide, by omega, by omega, by decide, by omega, by omega, rfl, T, P, h.sh hd (((((((ShF.rf.exc hd he (fun a ha => by simp at ha; omega)).upc hd (Or.inl rfl)).upm (by omega)).upm (by omega)).upm (by omega)).upm (by omega)).upm (by omega)) ?_⟩
    obtain ⟨-, m0, m1, m2, m3⟩ := hm
    refine ⟨?_, Or.inr (Or.inl ⟨?_, ⟨?_, ?_, ?_, ?_⟩, ?_⟩)⟩
    · rw [up_ne (by omega), up_ne (by omega), up_ne (by omega), up_ne (by omega), up_ne (by omega), up_self, up_ne (by omega), up_ne (by omega), up_ne (by omega), up_ne (by omega), up_self, q1]
    · rw [up_ne (by omega), up_ne (by omega), up_ne (by omega), up_ne (by omega), up_self, q1]
    · rw [up_ne (by omega), up_ne (by omega), up_ne (by omega), up_ne (by omega), up_ne (by omega), up_ne (by omega), m0, up_ne (by omega), up_ne (by omega), up_ne (by omega), up_self]
    · rw [up_ne (by omega), up_ne (by omega), up_ne (by omega), up_ne (by omega), up_ne (by omega), up_ne (by omega), m1, up_ne (by omega), up_ne (by omega), up_self]
    · rw [up_ne (by omega), up_ne (by omega), up_ne (by omega), up_ne (by omega), up_ne (by omega), up_ne (by omega), m2, up_ne (by omega), up_self]
    · rw [up_ne (by omega), up_ne (by omega), up_ne (by omega), up_ne (by omega), up_ne (by omega), up_ne (by omega), m3, up_self]
    · refine ⟨?_, ?_, ?_, ?_⟩
      · rw [up_ne (by omega), up_ne (by omega), up_ne (by omega), up_self]; omega
      · rw [up_ne (by omega), up_ne (by omega), up_self]; omega
      · rw [up_ne (by omega), up_self]; omega
      · rw [up_self]; omega
theorem eq_row {x s n : Int} : EQ iX6_row iX7_row [aI x, aI s, aI n] := by
  intro σ T P h
  have := l92
  have dead : ¬ ((0 ≤ x ∧ x < 8) ∧ (0 ≤ s ∧ s ≤ 2) ∧ n ≤ 100) → wpCall 20 iX7_row [aR 85, aI x, aI s, aI n] σ (fun r' σ2 => -1 = r' ∧ ∃ T' P', Inv σ2 T' P') := fun q =>
    bX7_row (y_isShelf (fun g => br_f2 (by decide) (m_isIn (fun g1 => br_f2 (by decide) ⟨fun _ => ⟨rfl, T, P, h⟩, fun z => absurd ⟨g, g1, by omega⟩ q⟩) (fun _ => br_t2 rfl ⟨rfl, T, P, h⟩))) (fun _ => br_t2 rfl ⟨rfl, T, P, h⟩))
  refine bX6_row (x_isShelf (fun g => br_f2 (by decide) ⟨fun q => dead (by omega), fun q1 => ⟨fun q => dead (by omega), fun q2 => ⟨fun q => dead (by omega), fun q3 => ⟨fun q => ?_, fun q4 => ?_⟩⟩⟩⟩) (fun g => br_t2 rfl (dead (by omega))))
  · exact bX7_row (y_isShelf (fun _ => br_f2 (by decide) (m_isIn (fun _ => br_f2 (by decide) ⟨fun z => absurd z q3, fun _ => ⟨fun _ => ⟨rfl, T, P, h⟩, fun z => absurd q z⟩⟩) (fun z => absurd (by omega) z))) (fun z => absurd g z))
  · obtain ⟨d, rfl, hd⟩ := in8 g
    obtain ⟨s1, s2, s3⟩ := shf_d hd
    rw [Int.toNat_natCast]
    refine ⟨by omega, by omega, s1, bX2_holdRow ⟨s1, s1, s1, s1, s_fill (by omega) (by omega) (fun σ1 e1 hz => ?_)⟩⟩
    have fA : ShF d σ σ1 := (((ShF.rf.upc hd (Or.inl rfl)).upc hd (Or.inl rfl)).upc hd (Or.inl rfl)).exc hd e1 (fun a ha => by simp at ha; omega)
    refine bX7_row (y_isShelf (fun _ => br_f2 (by decide) (m_isIn (fun _ => br_f2 (by decide) ⟨fun z => absurd z q3, fun _ => ⟨fun z => absurd z q4, fun _ => ⟨by omega, by omega, by omega, by omega, by omega, by omega, ?_⟩⟩⟩) (fun z => absurd (by omega) z))) (fun z => absurd g z))
    rw [Int.toNat_natCast]
    have fB : ShF d σ (up (up (up σ1 92 d 2) 93 d s) 94 d n) := ((fA.upm (by omega)).upm (by omega)).upm (by omega)
    have h0 : σ1 (61 + 3 * d) 0 = 2 := by rw [e1 _ (by simp), up_nk (by omega), up_nk (by omega), up_self]
    have h2 : σ1 (61 + 3 * d) 2 = s := by rw [e1 _ (by simp), up_nk (by omega), up_self]
    have h3 : σ1 (61 + 3 * d) 3 = n := by rw [e1 _ (by simp), up_self]
    refine dwn (W := fun i => ∀ σ2, Ex [95] (up (up (up σ1 92 d 2) 93 d s) 94 d n) σ2 → ShF d σ σ2 → (∀ j, j < i → σ2 95 (100 * d + j) = 0) → wpL (wpCall 19) mX7_row (fun r' σ2 => 0 = r' ∧ ∃ T' P', Inv σ2 T' P') 58 [aR 85, aI (d : Nat), aU, aU, aI (i : Nat)] [] σ2) 100 (fun σ2 e2 f2 z2 => ?_) (fun i hi ih σ2 e2 f2 z2 => ?_) 0 (Nat.zero_le _) _ Ex.rf fB (fun j hj => by omega)
    · refine bX7_row_58 ⟨fun z => by omega, fun _ => ⟨rfl, T, P, h.sh hd f2 ?_⟩⟩
      have o : ∀ a, a ≠ 95 → ∀ k, σ2 a k = up (up (up σ1 92 d 2) 93 d s) 94 d n a k := fun a ha k => e2 a (by simpa using ha) k
      have v92 : σ2 92 d = 2 := by rw [o 92 (by omega), up_ne (by omega), up_ne (by omega), up_self]
      have v93 : σ2 93 d = s := by rw [o 93 (by omega), up_ne (by omega), up_self]
      have v94 : σ2 94 d = n := by rw [o 94 (by omega), up_self]
      refine ⟨?_, Or.inr (Or.inr ⟨v92, ⟨?_, ?_⟩, by rw [v93]; omega, by rw [v94]; omega, fun i hi => ?_, fun _ i hi => ?_⟩)⟩
      · rw [v92, o _ (by omega), up_ne (by omega), up_ne (by omega), up_ne (by omega)]; exact h0
      · rw [v93, o _ (by omega), up_ne (by omega), up_ne (by omega), up_ne (by omega)]; exact h2
      · rw [v94, o _ (by omega), up_ne (by omega), up_ne (by omega), up_ne (by omega)]; exact h3
      · rw [z2 i hi, o _ (by omega), up_ne (by omega), up_ne (by omega), up_ne (by omega)]; exact hz i (by omega)
      · rw [z2 i hi]; omega
    · refine bX7_row_58 ⟨fun _ => ?_, fun z => by omega⟩
      rw [ix100 (by omega) (by omega), wr1 (by omega), Int.toNat_natCast]
      refine ⟨by omega, by omega, ih _ (e2.up (by simp)) (f2.up95 hi) (fun j hj => ?_)⟩
      by_cases z : j = i
      · rw [z, up_self]
      · rw [up_nk (by omega)]; exact z2 j (by omega)
theorem cB_r (x : Int) : -128 ≤ cB x ∧ cB x ≤ 127 := by
  unfold cB
  rw [Int8.toInt_toInt32]
  have h1 := Int8.le_toInt (Int32.ofInt x).toInt8
  have h2 := Int8.toInt_le (Int32.ofInt x).toInt8
  exact ⟨h1, h2⟩
theorem eq_put {x i v : Int} : EQ iX6_put iX7_put [aI x, aI i, aI v] := by
  intro σ T P h
  have := l92
  refine bX6_put (x_refOf2 h ⟨fun q => ?_, fun q => bX7_put (y_wrongRow (Or.inr rfl) (by
    rw [if_neg (by decide)]
    exact ⟨fun z => absurd z q, fun _ => ⟨rfl, T, P, h⟩⟩))⟩)
  obtain ⟨d, rfl, hd, h2⟩ := refR_0 q
  obtain ⟨s1, s2, s3⟩ := shf_d hd
  obtain ⟨n, en, hn, e2, e3, r3, f, fb⟩ := SH_rw (h.2.2.2 d hd) h2
  rw [Int.toNat_natCast]
  have dead : ¬ (0 ≤ i ∧ i < n) → wpCall 20 iX7_put [aR 85, aI (d : Nat), aI i, aI v] σ (fun r' σ2 => -13 = r' ∧ ∃ T' P', Inv σ2 T' P') := fun z => bX7_put (y_wrongRow (Or.inr rfl) (by
    rw [if_neg (by decide)]
    refine ⟨fun _ => ⟨by omega, by omega, ?_⟩, fun y => absurd q y⟩
    rw [Int.toNat_natCast, en, wr_id ⟨by omega, by omega⟩]
    exact m_isIn (fun y => absurd (by omega) z) (fun _ => br_t2 rfl ⟨rfl, T, P, h⟩)))
  refine ⟨by omega, by omega, s1, bX2_hasPlace ⟨fun z => ⟨by decide, br_t2 rfl (dead (by omega))⟩, fun z1 => ⟨s1, ?_⟩⟩⟩
  rw [e3]
  refine ⟨fun z2 => ⟨by decide, br_f2 (by decide) ⟨by omega, by omega, s1, bX2_setElement ⟨s1, ?_⟩⟩⟩, fun z => ⟨by decide, br_t2 rfl (dead (by omega))⟩⟩
  obtain ⟨i0, rfl⟩ : ∃ i0 : Nat, i = i0 := ⟨i.toNat, by omega⟩
  rw [e2, s3, Int.toNat_natCast]
  have fin : ∀ (u : Int), (σ 93 d = 0 → -128 ≤ u ∧ u ≤ 127) → (u = if σ 93 d = 0 then cB v else if σ 93 d = 1 then cS v else v) → wpCall 20 iX7_put [aR 85, aI (d : Nat), aI (i0 : Nat), aI v] (up σ (61 + 3 * d + 2) i0 u) (fun r' σ2 => 0 = r' ∧ ∃ T' P', Inv σ2 T' P') := fun u hu hu2 => by
    have o : ∀ a, 92 ≤ a → ∀ k, up σ (61 + 3 * d + 2) i0 u a k = σ a k := fun a ha k => up_ne (by omega)
    refine bX7_put (y_wrongRow (Or.inr rfl) ?_)
    rw [if_neg (by decide), refR_cg (σ := σ) (fun a h1 _ k => o a h1 k)]
    refine ⟨fun _ => ⟨by omega, by omega, ?_⟩, fun y => absurd q y⟩
    rw [Int.toNat_natCast, o 94 (by omega), en, wr_id ⟨by omega, by omega⟩]
    refine m_isIn (fun _ => br_f2 (by decide) ⟨by omega, by omega, ?_⟩) (fun y => absurd (by omega) y)
    rw [ix100 (by omega) (by omega), Int.toNat_natCast, o 93 (by omega)]
    have last : ∀ u', u' = u → (0 : Int) = 0 ∧ ∃ T' P', Inv (up (up σ (61 + 3 * d + 2) i0 u) 95 (100 * d + i0) u') T' P' := fun u' eu => by
      subst eu
      refine ⟨rfl, T, P, h.sh hd ((ShF.rf.upc hd (Or.inr (Or.inr rfl))).up95 (by omega)) ?_⟩
      refine ⟨?_, Or.inr (Or.inr ⟨?_, ⟨?_, ?_⟩, ?_, ?_, fun k hk => ?_, fun z k hk => ?_⟩)⟩
      · rw [up_ne (by omega), up_ne (by omega), up_ne (by omega), o 92 (by omega)]; exact SH_0 (h.2.2.2 d hd)
      · rw [up_ne (by omega), o 92 (by omega)]; exact h2
      · rw [up_ne (by omega), up_ne (by omega), up_ne (by omega), o 93 (by omega)]; exact e2
      · rw [up_ne (by omega), up_ne (by omega), up_ne (by omega), o 94 (by omega), en]; exact e3
      · rw [up_ne (by omega), o 93 (by omega)]; exact r3
      · rw [up_ne (by omega), o 94 (by omega), en]; omega
      · rw [up_ne (by omega)]
        by_cases y : k = i0
        · rw [y, up_self, up_self]
        · rw [up_nk y, up_nk (by omega), o 95 (by omega)]; exact f k hk
      · rw [up_ne (by omega), o 93 (by omega)] at z
        by_cases y : k = i0
        · rw [y, up_self]; exact hu z
        · rw [up_nk (by omega), o 95 (by omega)]; exact fb z k hk
    refine ⟨fun y => ⟨by omega, by omega, last _ ?_⟩, fun y => ⟨by omega, by omega, fun y2 => ⟨by omega, by omega, last _ ?_⟩, fun y2 => ⟨by omega, by omega, last _ ?_⟩⟩⟩
    · rw [hu2, if_pos y]
    · rw [hu2, if_neg y, if_pos y2]
    · rw [hu2, if_neg y, if_neg y2]
  refine ⟨fun y => ⟨s1, by omega, by omega, fin _ (fun _ => cB_r v) (by rw [if_pos y])⟩, fun y => ⟨s1, fun y2 => ⟨s1, by omega, by omega, fin _ (fun z => absurd z y) (by rw [if_neg y, if_pos y2])⟩, fun y2 => ⟨s1, by omega, by omega, fin _ (fun z => absurd z y) (by rw [if_neg y, if_neg y2])⟩⟩⟩
