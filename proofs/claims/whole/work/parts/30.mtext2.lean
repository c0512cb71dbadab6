/-! THE MODEL'S STATEMENTS -/
def MFLD (σ : Sg) (k : Int) (R : RSt) : Prop := (k ≠ 112 → σ 100 0 = R.a) ∧ (k = 121 ∨ k = 119 ∨ k = 108 ∨ k = 105 → σ 100 1 = R.b) ∧ (k = 121 ∨ k = 119 → σ 100 2 = R.c) ∧ (k = 112 ∨ k = 108 → σ 85 20 = R.set) ∧ (k = 112 → σ 85 21 = R.hid ∧ (R.a = -4 → σ 85 23 = 0) ∧ (R.a ≠ -4 → σ 85 23 ≠ 0 ∧ σ 100 0 = R.a))
theorem MFLD.adv {σ : Sg} {k v : Int} {R : RSt} (h : MFLD σ k R) : MFLD (up σ 85 16 v) k R := by
  unfold MFLD at *
  rw [up_ne (show (100 : Nat) ≠ 85 by omega), up_ne (show (100 : Nat) ≠ 85 by omega), up_ne (show (100 : Nat) ≠ 85 by omega), up_nk (show (20 : Nat) ≠ 16 by omega), up_nk (show (21 : Nat) ≠ 16 by omega), up_nk (show (23 : Nat) ≠ 16 by omega)]
  exact h
def RDm (σ : Sg) (b : Nat → Int) (n : Nat) (k : Int) (K : Kt) (R : RSt) : Prop := ∀ σ', Ex [85, 100] σ σ' → TM σ' b n R.p → (R.ok = true → MFLD σ' k R) → K (b2i R.ok) σ'
theorem RDm_bd {σ σ' : Sg} {b : Nat → Int} {n q : Nat} {k : Int} {K : Kt} (h : RDm σ b n k K (bdR q)) (he : Ex [85, 100] σ σ') (hx : TM σ' b n q) : K 0 σ' := h σ' he hx (fun z => absurd (show false = true from z) (by decide))
theorem RDm_ok {σ σ' : Sg} {b : Nat → Int} {n q : Nat} {k a v w s g : Int} {K : Kt} (h : RDm σ b n k K (true, q, a, v, w, s, g)) (he : Ex [85, 100] σ σ') (hx : TM σ' b n q) (hf : MFLD σ' k (true, q, a, v, w, s, g)) : K 1 σ' := h σ' he hx (fun _ => hf)
theorem MFLD_p {σ : Sg} {k a v w s g : Int} {q q' : Nat} (h : MFLD σ k (true, q, a, v, w, s, g)) : MFLD σ k (true, q', a, v, w, s, g) := h
theorem m_end1 {d n p : Nat} {b : Nat → Int} {σ σ1 : Sg} {k a v w s g : Int} {K : Kt} (hx : TM σ1 b n p) (he : Ex [85, 100] σ σ1) (hQ : RDm σ b n k K (zS (byt b n) 59 p fun p => (true, p, a, v, w, s, g))) (hf : MFLD σ1 k (true, p, a, v, w, s, g)) : wpCall (d + 2) iX7_takes [aR 85, aI 59] σ1 (fun r3 s3 => (r3 = 0 → ((0 : Int) = 0 ∨ (0 : Int) = 1) ∧ K 0 s3) ∧ (¬ r3 = 0 → ((1 : Int) = 0 ∨ (1 : Int) = 1) ∧ K 1 s3)) := by
  unfold zS at hQ
  refine m_takes hx (fun q => ⟨fun z => absurd z (by decide), fun _ => ⟨by decide, ?_⟩⟩) (fun q => ⟨fun _ => ⟨by decide, ?_⟩, fun z => absurd rfl z⟩)
  · rw [if_pos q] at hQ
    exact RDm_ok hQ (he.up (by simp)) (hx.plus (by omega)) (MFLD_p hf.adv)
  · rw [if_neg q] at hQ
    exact RDm_bd hQ he hx
theorem m_end2 {d n p : Nat} {b : Nat → Int} {σ σ1 : Sg} {k a v w s g : Int} {K : Kt} (hx : TM σ1 b n p) (he : Ex [85, 100] σ σ1) (hQ : RDm σ b n k K (zS (byt b n) 59 p fun p => (true, p, a, v, w, s, g))) (hf : MFLD σ1 k (true, p, a, v, w, s, g)) : wpCall (d + 2) iX7_takes [aR 85, aI 59] σ1 (fun r3 s3 => (r3 = 0 ∨ r3 = 1) ∧ K r3 s3) := by
  unfold zS at hQ
  refine m_takes hx (fun q => ⟨by decide, ?_⟩) (fun q => ⟨by decide, ?_⟩)
  · rw [if_pos q] at hQ
    exact RDm_ok hQ (he.up (by simp)) (hx.plus (by omega)) (MFLD_p hf.adv)
  · rw [if_neg q] at hQ
    exact RDm_bd hQ he hx
theorem wr_w {t x : Int} (h : 0 ≤ t ∧ t ≤ 9) (hx : 48 ≤ x ∧ x ≤ 57) : wr (wr (wr (10 * t) + x) - 48) = 10 * t + (x - 48) := by unfold wr; omega
theorem m_readsStatement {d n p : Nat} {b : Nat → Int} {σ : Sg} {K : Kt} (hx : TM σ b n p) (hQ : RDm σ b n (byt b n p) K (stm (byt b n) p)) : wpCall (d + 3) iX7_readsStatement [aR 85] σ K := by
  obtain ⟨h3, h4, hbr, h16⟩ := hx.le
  refine bX7_readsStatement (m_here hx ?_)
  have hx0 : TM (up (up (up σ 85 19 0) 85 21 0) 85 23 0) b n p := ((hx.fld (by omega)).fld (by omega)).fld (by omega)
  have e0 : Ex [85, 100] σ (up (up (up σ 85 19 0) 85 21 0) 85 23 0) := ((Ex.rf.up (by simp)).up (by simp)).up (by simp)
  have z19 : up (up (up σ 85 19 0) 85 21 0) 85 23 0 85 19 = 0 := by rw [up_nk (by omega), up_nk (by omega), up_self]
  have z21 : up (up (up σ 85 19 0) 85 21 0) 85 23 0 85 21 = 0 := by rw [up_nk (by omega), up_self]
  have z23 : up (up (up σ 85 19 0) 85 21 0) 85 23 0 85 23 = 0 := up_self
  generalize up (up (up σ 85 19 0) 85 21 0) 85 23 0 = σ0 at hx0 e0 z19 z21 z23 ⊢
  rw [hx0.le.2.2.2, wr1 (by omega)]
  have bad : (byt b n p ≠ 115 ∧ byt b n p ≠ 121 ∧ byt b n p ≠ 112 ∧ byt b n p ≠ 119 ∧ byt b n p ≠ 108 ∧ byt b n p ≠ 105) → K 0 σ0 := by
    intro h
    unfold stm at hQ
    rw [if_neg h.1, if_neg h.2.1, if_neg h.2.2.1, if_neg h.2.2.2.1, if_neg h.2.2.2.2.1, if_neg h.2.2.2.2.2] at hQ
    exact RDm_bd hQ e0 hx0
  have hx1 : byt b n p ≠ -1000 → TM (up σ0 85 16 ((p + 1 : Nat) : Int)) b n (p + 1) := fun h => hx0.plus h
  have e1 : Ex [85, 100] σ (up σ0 85 16 ((p + 1 : Nat) : Int)) := e0.up (by simp)
  have y19 : up σ0 85 16 ((p + 1 : Nat) : Int) 85 19 = ((0 : Nat) : Int) := by rw [up_nk (by omega)]; exact z19
  have y21 : up σ0 85 16 ((p + 1 : Nat) : Int) 85 21 = 0 := by rw [up_nk (by omega)]; exact z21
  have y23 : up σ0 85 16 ((p + 1 : Nat) : Int) 85 23 = 0 := by rw [up_nk (by omega)]; exact z23
  generalize up σ0 85 16 ((p + 1 : Nat) : Int) = σ1 at hx1 e1 y19 y21 y23 ⊢
  have two : ∀ {σa σb : Sg}, Ex [85, 100] σ σa → Ex [85, 100] σa σb → Ex [85, 100] σ σb := fun h1 h2 => h1.tr h2 (fun _ h => h) (fun _ h => h)
  have one : ∀ {σa σb : Sg}, Ex [85, 100] σ σa → Ex [85] σa σb → Ex [85, 100] σ σb := fun h1 h2 => h1.tr h2 (fun _ h => h) (by simp)
  refine ⟨by decide, fun q => ?_, fun q => ⟨by decide, bad (by omega)⟩, fun q => ⟨by decide, bad (by omega)⟩, fun q => ?_, fun q => ⟨by decide, bad (by omega)⟩, fun q => ⟨by decide, bad (by omega)⟩, fun q => ⟨by decide, bad (by omega)⟩, fun q => ?_, fun q => ⟨by decide, bad (by omega)⟩, fun q => ⟨by decide, bad (by omega)⟩, fun q => ?_, fun q => ⟨by decide, bad (by omega)⟩, fun q => ⟨by decide, bad (by omega)⟩, fun q => ⟨by decide, bad (by omega)⟩, fun q => ?_, fun q => ⟨by decide, bad (by omega)⟩, fun q => ?_, fun q => ⟨by decide, bad (by omega)⟩⟩
  · unfold stm at hQ
    rw [if_neg (by omega), if_neg (by omega), if_neg (by omega), if_neg (by omega), if_neg (by omega), if_pos q] at hQ
    refine m_dig (d := d) (hx1 (by omega)) y19 (by omega) hQ (fun hq => ⟨fun _ => ⟨by decide, RDm_bd hq e1 (hx1 (by omega))⟩, fun z => absurd rfl z⟩) (fun q1 a hq ra σ2 he2 hx2 t2 v2 o2 f2 => ⟨fun z => absurd z (by decide), fun _ => ?_⟩)
    try dsimp only at hq
    have e2 := two e1 he2
    refine m_dig (d := d) hx2 t2 (by omega) hq (fun hq => ⟨fun _ => ⟨by decide, RDm_bd hq e2 hx2⟩, fun z => absurd rfl z⟩) (fun q2 v hq rv σ3 he3 hx3 t3 v3 o3 f3 => ⟨fun z => absurd z (by decide), fun _ => ?_⟩)
    try dsimp only at hq
    exact m_end1 (d := d) hx3 (two e2 he3) hq ⟨fun _ => by rw [o3 0 (by omega)]; exact v2, fun _ => v3, fun h => by omega, fun h => by omega, fun h => by omega⟩
  · unfold stm at hQ
    rw [if_neg (by omega), if_neg (by omega), if_neg (by omega), if_neg (by omega), if_pos q] at hQ
    refine m_dig (d := d) (hx1 (by omega)) y19 (by omega) hQ (fun hq => ⟨fun _ => ⟨by decide, RDm_bd hq e1 (hx1 (by omega))⟩, fun z => absurd rfl z⟩) (fun q1 a hq ra σ2 he2 hx2 t2 v2 o2 f2 => ⟨fun z => absurd z (by decide), fun _ => ?_⟩)
    try dsimp only at hq
    have e2 := two e1 he2
    refine m_dig (d := d) hx2 t2 (by omega) hq (fun hq => ⟨fun _ => ⟨by decide, RDm_bd hq e2 hx2⟩, fun z => absurd rfl z⟩) (fun q2 v hq rv σ3 he3 hx3 t3 v3 o3 f3 => ⟨fun z => absurd z (by decide), fun _ => ?_⟩)
    try dsimp only at hq
    have e3 := two e2 he3
    unfold zC at hq
    refine m_readsCrafts (d := d) hx3 (fun σ4 he4 hx4 f4 => ?_)
    refine m_end2 (d := d) (hx4.fld (by omega)) ((one e3 he4).up (by simp)) hq ⟨fun _ => ?_, fun _ => ?_, fun h => by omega, fun h => ?_, fun h => by omega⟩
    · rw [up_ne (by omega), he4 100 (by simp), o3 0 (by omega)]; exact v2
    · rw [up_ne (by omega), he4 100 (by simp)]; exact v3
    · rw [up_self]
  · unfold stm at hQ
    rw [if_neg (by omega), if_neg (by omega), if_pos q] at hQ
    unfold zC1 at hQ
    refine m_readsCrafts (d := d) (hx1 (by omega)) (fun σ2 he2 hx2 f2 => ?_)
    have e2 := (one e1 he2).up (a := 85) (k := 20) (v := (crS (byt b n) 8 (p + 1) 0).2) (by simp)
    have hx2 := hx2.fld (k := 20) (v := (crS (byt b n) 8 (p + 1) 0).2) (by omega)
    generalize hR : crS (byt b n) 8 (p + 1) 0 = R at *
    rw [up_self]
    refine ⟨fun z => ⟨by decide, ?_⟩, fun z => ?_⟩
    · rw [if_pos z] at hQ
      exact RDm_bd hQ e2 hx2
    rw [if_neg z] at hQ
    dsimp only at hQ
    have g19 : up σ2 85 20 R.2 85 19 = ((0 : Nat) : Int) := by rw [up_nk (by omega), f2 19 (by omega)]; exact y19
    have g21 : up σ2 85 20 R.2 85 21 = 0 := by rw [up_nk (by omega), f2 21 (by omega)]; exact y21
    have g20 : up σ2 85 20 R.2 85 20 = R.2 := up_self
    generalize up σ2 85 20 R.2 = σ3 at e2 hx2 g19 g20 g21 ⊢
    have tail : ∀ σa q a, Ex [85, 100] σ σa → TM σa b n q → σa 85 20 = R.2 → σa 85 21 = 0 → ((a = -4 → σa 85 23 = 0) ∧ (a ≠ -4 → σa 85 23 ≠ 0 ∧ σa 100 0 = a)) → RDm σ b n (byt b n p) K (zX (byt b n) q fun p h => zS (byt b n) 59 p fun p => (true, p, a, 0, 0, R.2, h)) → wpCall (d + 2) iX7_takes [aR 85, aI 120] σa (fun r11 s11 => (r11 = 0 → wpCall (d + 2) iX7_takes [aR 85, aI 59] s11 (fun r12 s12 => (r12 = 0 ∨ r12 = 1) ∧ K r12 s12)) ∧ (¬ r11 = 0 → wpCall (d + 2) iX7_readsCrafts [aR 85] s11 (fun r13 s13 => (((up s13 85 21 r13) 85 21) = 0 → ((0 : Int) = 0 ∨ (0 : Int) = 1) ∧ K 0 (up s13 85 21 r13)) ∧ (¬ ((up s13 85 21 r13) 85 21) = 0 → wpCall (d + 2) iX7_takes [aR 85, aI 59] (up s13 85 21 r13) (fun r14 s14 => (r14 = 0 ∨ r14 = 1) ∧ K r14 s14))))) := by
      intro σa q a ea hxa ga20 ga21 gt hQa
      unfold zX at hQa
      refine m_takes hxa (fun g => ⟨fun z => absurd z (by decide), fun _ => ?_⟩) (fun g => ⟨fun _ => ?_, fun z => absurd rfl z⟩)
      · rw [if_pos g] at hQa
        unfold zC1 at hQa
        refine m_readsCrafts (d := d) (hxa.plus (by omega)) (fun σb heb hxb fb => ?_)
        rw [up_self]
        refine ⟨fun z => ⟨by decide, ?_⟩, fun z => ?_⟩
        · rw [if_pos z] at hQa
          exact RDm_bd hQa ((one (ea.up (by simp)) heb).up (by simp)) (hxb.fld (by omega))
        · rw [if_neg z] at hQa
          dsimp only at hQa
          refine m_end2 (d := d) (hxb.fld (by omega)) ((one (ea.up (by simp)) heb).up (by simp)) hQa ⟨fun h => by omega, fun h => by omega, fun h => by omega, fun _ => ?_, fun _ => ⟨?_, fun h => ?_, fun h => ?_⟩⟩
          · rw [up_nk (by omega), fb 20 (by omega), up_nk (by omega)]; exact ga20
          · rw [up_self]
          · rw [up_nk (by omega), fb 23 (by omega), up_nk (by omega)]; exact gt.1 h
          · rw [up_nk (by omega), fb 23 (by omega), up_nk (by omega), up_ne (by omega), heb 100 (by simp), up_ne (by omega)]; exact gt.2 h
      · rw [if_neg g] at hQa
        exact m_end2 (d := d) hxa ea hQa ⟨fun h => by omega, fun h => by omega, fun h => by omega, fun _ => ga20, fun _ => ⟨ga21, gt.1, gt.2⟩⟩
    unfold zT at hQ
    refine m_takes (d := d) hx2 (fun g => ⟨by decide, ?_⟩) (fun g => ⟨by decide, ?_⟩)
    · rw [if_pos g] at hQ
      rw [up_self]
      refine ⟨fun z => absurd z (by decide), fun _ => ?_⟩
      have hx3 := (hx2.plus (by omega)).fld (k := 23) (v := 1) (by omega)
      have e3 : Ex [85, 100] σ (up (up σ3 85 16 ((R.1 + 1 : Nat) : Int)) 85 23 1) := (e2.up (by simp)).up (by simp)
      refine m_dig (d := d) hx3 (t := 0) (by rw [up_nk (by omega), up_nk (by omega)]; exact g19) (by omega) hQ (fun hq => ⟨fun _ => ⟨by decide, RDm_bd hq e3 hx3⟩, fun z => absurd rfl z⟩) (fun q1 a hq ra σ4 he4 hx4 t4 v4 o4 f4 => ⟨fun z => absurd z (by decide), fun _ => ?_⟩)
      try dsimp only at hq
      refine tail σ4 q1 a (two e3 he4) hx4 ?_ ?_ ⟨fun h => by omega, fun h => ⟨?_, v4⟩⟩ hq
      · rw [f4 20 (by omega) (by omega), up_nk (by omega), up_nk (by omega)]; exact g20
      · rw [f4 21 (by omega) (by omega), up_nk (by omega), up_nk (by omega)]; exact g21
      · rw [f4 23 (by omega) (by omega), up_self]; decide
    · rw [if_neg g] at hQ
      rw [up_self]
      refine ⟨fun _ => ?_, fun z => absurd rfl z⟩
      exact tail _ _ (-4) (e2.up (by simp)) (hx2.fld (by omega)) (by rw [up_nk (by omega)]; exact g20) (by rw [up_nk (by omega)]; exact g21) ⟨fun _ => up_self, fun h => absurd rfl h⟩ hQ
  · unfold stm at hQ
    rw [if_pos q] at hQ
    refine m_dig (d := d) (hx1 (by omega)) y19 (by omega) hQ (fun hq => ⟨fun _ => ⟨by decide, RDm_bd hq e1 (hx1 (by omega))⟩, fun z => absurd rfl z⟩) (fun q1 a hq ra σ2 he2 hx2 t2 v2 o2 f2 => ⟨fun z => absurd z (by decide), fun _ => ?_⟩)
    try dsimp only at hq
    exact m_end1 (d := d) hx2 (two e1 he2) hq ⟨fun _ => v2, fun h => by omega, fun h => by omega, fun h => by omega, fun h => by omega⟩
  · unfold stm at hQ
    rw [if_neg (by omega), if_neg (by omega), if_neg (by omega), if_pos q] at hQ
    refine m_dig (d := d) (hx1 (by omega)) y19 (by omega) hQ (fun hq => ⟨fun _ => ⟨by decide, RDm_bd hq e1 (hx1 (by omega))⟩, fun z => absurd rfl z⟩) (fun q1 a hq ra σ2 he2 hx2 t2 v2 o2 f2 => ⟨fun z => absurd z (by decide), fun _ => ?_⟩)
    try dsimp only at hq
    have e2 := two e1 he2
    refine m_dig (d := d) hx2 t2 (by omega) hq (fun hq => ⟨fun _ => ⟨by decide, RDm_bd hq e2 hx2⟩, fun z => absurd rfl z⟩) (fun q2 v hq rv σ3 he3 hx3 t3 v3 o3 f3 => ⟨fun z => absurd z (by decide), fun _ => ?_⟩)
    try dsimp only at hq
    have e3 := two e2 he3
    unfold zS at hq
    refine m_takes (d := d) hx3 (fun g => ⟨fun z => absurd z (by decide), fun _ => ?_⟩) (fun g => ⟨fun _ => ⟨by decide, by rw [if_neg g] at hq; exact RDm_bd hq e3 hx3⟩, fun z => absurd rfl z⟩)
    rw [if_pos g] at hq
    try dsimp only at hq
    unfold zN at hq
    have e4 := e3.up (a := 85) (k := 16) (v := ((q2 + 1 : Nat) : Int)) (by simp)
    refine m_dig (d := d) (hx3.plus (by omega)) (t := 2) (by rw [up_nk (by omega)]; exact t3) (by omega) hq (fun hq => ⟨fun _ => ⟨by decide, RDm_bd hq e4 (hx3.plus (by omega))⟩, fun z => absurd rfl z⟩) (fun q4 w hq rw4 σ4 he4 hx4 t4 v4 o4 f4 => ⟨fun z => absurd z (by decide), fun _ => ⟨by decide, by decide, ?_⟩⟩)
    try dsimp only at hq
    have e5 := two e4 he4
    have g0 : σ4 100 0 = a := by rw [o4 0 (by omega), up_ne (by omega), o3 0 (by omega)]; exact v2
    have g1 : σ4 100 1 = v := by rw [o4 1 (by omega), up_ne (by omega)]; exact v3
    rw [v4]
    refine ⟨fun z => m_here hx4 (m_isIn (fun g => ?_) (fun g => ⟨fun _ => ?_, fun z => absurd rfl z⟩)), fun z => ?_⟩
    · rw [if_pos ⟨z, g⟩] at hq
      refine ⟨fun z => absurd z (by decide), fun _ => ⟨by decide, by decide, m_here hx4 ⟨by decide, by decide, ?_⟩⟩⟩
      rw [v4, wr_w rw4 g, up_ne (by omega), hx4.le.2.2.2, wr1 (by have := hx4.le; omega)]
      refine m_end2 (d := d) ((hx4.oth (by omega) (by omega)).plus (by omega)) ((e5.up (by simp)).up (by simp)) hq ⟨fun _ => ?_, fun _ => ?_, fun _ => ?_, fun h => by omega, fun h => by omega⟩
      · rw [up_ne (by omega), up_nk (by omega)]; exact g0
      · rw [up_ne (by omega), up_nk (by omega)]; exact g1
      · rw [up_ne (by omega), up_self]
    · rw [if_neg (fun h => g h.2)] at hq
      exact m_end2 (d := d) hx4 e5 hq ⟨fun _ => g0, fun _ => g1, fun _ => v4, fun h => by omega, fun h => by omega⟩
    · rw [if_neg (fun h => z h.1)] at hq
      exact m_end2 (d := d) hx4 e5 hq ⟨fun _ => g0, fun _ => g1, fun _ => v4, fun h => by omega, fun h => by omega⟩
  · unfold stm at hQ
    rw [if_neg (by omega), if_pos q] at hQ
    refine m_dig (d := d) (hx1 (by omega)) y19 (by omega) hQ (fun hq => ⟨fun _ => ⟨by decide, RDm_bd hq e1 (hx1 (by omega))⟩, fun z => absurd rfl z⟩) (fun q1 a hq ra σ2 he2 hx2 t2 v2 o2 f2 => ⟨fun z => absurd z (by decide), fun _ => ?_⟩)
    try dsimp only at hq
    have e2 := two e1 he2
    refine m_dig (d := d) hx2 t2 (by omega) hq (fun hq => ⟨fun _ => ⟨by decide, RDm_bd hq e2 hx2⟩, fun z => absurd rfl z⟩) (fun q2 v hq rv σ3 he3 hx3 t3 v3 o3 f3 => ⟨fun z => absurd z (by decide), fun _ => ?_⟩)
    try dsimp only at hq
    have e3 := two e2 he3
    refine m_dig (d := d) hx3 t3 (by omega) hq (fun hq => ⟨fun _ => ⟨by decide, RDm_bd hq e3 hx3⟩, fun z => absurd rfl z⟩) (fun q3 w hq rw3 σ4 he4 hx4 t4 v4 o4 f4 => ⟨fun z => absurd z (by decide), fun _ => ?_⟩)
    try dsimp only at hq
    exact m_end1 (d := d) hx4 (two e3 he4) hq ⟨fun _ => by rw [o4 0 (by omega), o3 0 (by omega)]; exact v2, fun _ => by rw [o4 1 (by omega)]; exact v3, fun _ => v4, fun h => by omega, fun h => by omega⟩
