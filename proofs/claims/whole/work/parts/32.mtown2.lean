theorem MV_tPer {σ σ' T : Sg} {a : Nat} {c ti hi : Int} (hv : MV σ a T) (hm : MX σ a T) (hw : WF T) (h8 : T 0 1 < 8) (g1 : σ' a 1 = T 0 1 + 1) (go : ∀ k, k ≠ 1 → ¬ (35 + 9 * nP T ≤ k ∧ k < 44 + 9 * nP T) → σ' a k = σ a k) (gc : σ' a (35 + 9 * nP T) = c) (gh : σ' a (36 + 9 * nP T) = hi) (gt : σ' a (37 + 9 * nP T) = ti) (ga : σ' a (38 + 9 * nP T) = -4) (gw : ∀ s, s < 5 → σ' a (39 + 9 * nP T + s) = 10) : MV σ' a (tPer T c ti hi) ∧ MX σ' a (tPer T c ti hi) := by
  obtain ⟨⟨e0, e1, e2, e3, e4⟩, eh, ew, ep⟩ := id hv
  obtain ⟨⟨⟨a1, a2⟩, ⟨a3, a4⟩, ⟨a5, a6⟩, ⟨a7, a8⟩, a9⟩, wh, ww, wp⟩ := id hw
  have hnP : ((nP T : Nat) : Int) = T 0 1 := Int.toNat_of_nonneg a3
  have hnS : ((nS T : Nat) : Int) = T 0 0 := Int.toNat_of_nonneg a1
  refine ⟨⟨⟨by rw [go 0 (by omega) (by omega)]; exact e0, g1, by rw [go 2 (by omega) (by omega)]; exact e2, by rw [go 3 (by omega) (by omega)]; exact e3, by rw [go 4 (by omega) (by omega)]; exact e4⟩, fun x hx => ?_, fun x y hx hy => ?_, fun q hq => ?_⟩, fun x y hx hy hxy => ?_, fun q x hq hx hx5 => ?_⟩
  · rw [tPer00] at hx
    rw [go _ (by omega) (by omega)]; exact eh x hx
  · rw [tPer00] at hx hy
    rw [go _ (by omega) (by omega)]; exact ew x y hx hy
  · rw [tPer01] at hq
    unfold MVp
    rw [tPer3, tPer4, tPer5, tPer7, tPer00]
    by_cases e : q = nP T
    · rw [e]
      simp only [if_true]
      refine ⟨gc, gh, gt, ga, fun s hs => ?_⟩
      rw [tPer6 T c ti hi (by omega), if_pos rfl]; exact gw s (by omega)
    · obtain ⟨b1, b2, b3, b4, b5⟩ := ep q (by omega)
      simp only [if_neg e]
      refine ⟨by rw [go _ (by omega) (by omega)]; exact b1, by rw [go _ (by omega) (by omega)]; exact b2, by rw [go _ (by omega) (by omega)]; exact b3, by rw [go _ (by omega) (by omega)]; exact b4, fun s hs => ?_⟩
      rw [go _ (by omega) (by omega), tPer6 T c ti hi (by omega), if_neg e]; exact b5 s hs
  · rw [tPer00] at hxy
    rw [go _ (by omega) (by omega)]; exact hm.1 x y hx hy hxy
  · rw [tPer01] at hq
    rw [tPer00] at hx
    by_cases e : q = nP T
    · rw [e]; exact gw x hx5
    · rw [go _ (by omega) (by omega)]; exact hm.2 q x (by omega) hx hx5
def DOm (σ : Sg) (K : Kt) (o : Option Sg) : Prop := match o with
  | none => K 0 σ
  | some T' => ∀ σ', Ex [88] σ σ' → MV σ' 88 T' ∧ MX σ' 88 T' → K 1 σ'
theorem ix9 {p k : Nat} (h : p < 9) (hk : k < 9) : wr (wr (35 + wr (9 * (p : Int))) + (k : Int)) = ((35 + k + 9 * p : Nat) : Int) := by unfold wr; push_cast; omega
theorem ix9w {p s : Nat} (h : p < 9) (hs : s < 9) : wr (wr (wr (35 + wr (9 * (p : Int))) + 4) + (s : Int)) = ((39 + 9 * p + s : Nat) : Int) := by unfold wr; push_cast; omega
theorem ixw {x y : Nat} (h : x < 9) (hs : y < 9) : wr (wr (10 + wr (5 * (x : Int))) + (y : Int)) = ((10 + 5 * x + y : Nat) : Int) := by unfold wr; push_cast; omega
theorem ixh {x : Nat} (h : x < 9) : wr (5 + (x : Int)) = ((5 + x : Nat) : Int) := by unfold wr; push_cast; omega
theorem ixp0 {p : Nat} (h : p < 9) : wr (wr (35 + wr (9 * (p : Int))) + 0) = ((35 + 9 * p : Nat) : Int) := by unfold wr; push_cast; omega
theorem ixp1 {p : Nat} (h : p < 9) : wr (wr (35 + wr (9 * (p : Int))) + 1) = ((36 + 9 * p : Nat) : Int) := by unfold wr; push_cast; omega
theorem ixp2 {p : Nat} (h : p < 9) : wr (wr (35 + wr (9 * (p : Int))) + 2) = ((37 + 9 * p : Nat) : Int) := by unfold wr; push_cast; omega
theorem ixp3 {p : Nat} (h : p < 9) : wr (wr (35 + wr (9 * (p : Int))) + 3) = ((38 + 9 * p : Nat) : Int) := by unfold wr; push_cast; omega
theorem ixpb {p : Nat} (h : p < 9) : wr (35 + wr (9 * (p : Int))) = ((35 + 9 * p : Nat) : Int) := by unfold wr; push_cast; omega
theorem ixps {p s : Nat} (h : p < 9) (hs : s < 9) : wr (wr (((35 + 9 * p : Nat) : Int) + 4) + (s : Int)) = ((39 + 9 * p + s : Nat) : Int) := by unfold wr; push_cast; omega
theorem m_comes315 {d : Nat} {c ti hi : Int} {σ σ1 T : Sg} {K : Kt} (hv : MV σ 88 T) (hm : MX σ 88 T) (hw : WF T) (h8 : T 0 1 < 8) (he : Ex [88] σ σ1) (g1 : σ1 88 1 = T 0 1) (go : ∀ k, ¬ (35 + 9 * nP T ≤ k ∧ k < 44 + 9 * nP T) → σ1 88 k = σ 88 k) (gc : σ1 88 (35 + 9 * nP T) = c) (gh : σ1 88 (36 + 9 * nP T) = hi) (gt : σ1 88 (37 + 9 * nP T) = ti) (ga : σ1 88 (38 + 9 * nP T) = -4) (hk : ∀ σ', Ex [88] σ σ' → MV σ' 88 (tPer T c ti hi) ∧ MX σ' 88 (tPer T c ti hi) → K 1 σ') : wpL (wpCall d) mX7_comes K 315 [aR 85, aU, aU, aU, aU, aI ((35 + 9 * nP T : Nat) : Int), aI 0] [] σ1 := by
  have hnP : ((nP T : Nat) : Int) = T 0 1 := Int.toNat_of_nonneg hw.1.2.1.1
  have l88 : LEN 88 = 107 := rfl
  obtain ⟨n, hn⟩ : ∃ n : Nat, nP T = n := ⟨_, rfl⟩
  rw [hn] at go gc gh gt ga hnP ⊢
  refine dwn (W := fun j => ∀ σ2, Ex [88] σ1 σ2 → (∀ k, ¬ (39 + 9 * n ≤ k ∧ k < 44 + 9 * n) → σ2 88 k = σ1 88 k) → (∀ s, s < j → σ2 88 (39 + 9 * n + s) = 10) → wpL (wpCall d) mX7_comes K 315 [aR 85, aU, aU, aU, aU, aI ((35 + 9 * n : Nat) : Int), aI (j : Nat)] [] σ2) 5 (fun σ2 h2 o2 w2 => ?_) (fun j hj ih σ2 h2 o2 w2 => ?_) 0 (Nat.zero_le _) σ1 Ex.rf (fun _ _ => rfl) (fun s hs => by omega)
  · refine bX7_comes_315 ⟨fun z => by omega, fun _ => ⟨by omega, by omega, by omega, by omega, by decide, ?_⟩⟩
    rw [o2 1 (by omega), g1, ← hnP, wr1 (by omega)]
    refine hk _ ((he.tr h2 (fun _ h => h) (fun _ h => h)).up (by simp)) (MV_tPer hv hm hw h8 ?_ (fun k k1 k2 => ?_) ?_ ?_ ?_ ?_ (fun s hs => ?_))
    · rw [up_self]; omega
    · rw [hn] at k2
      rw [up_nk k1, o2 k (by omega), go k (by omega)]
    · rw [hn, up_nk (by omega), o2 _ (by omega)]; exact gc
    · rw [hn, up_nk (by omega), o2 _ (by omega)]; exact gh
    · rw [hn, up_nk (by omega), o2 _ (by omega)]; exact gt
    · rw [hn, up_nk (by omega), o2 _ (by omega)]; exact ga
    · rw [hn, up_nk (by omega)]; exact w2 s hs
  · refine bX7_comes_315 ⟨fun _ => ?_, fun z => by omega⟩
    rw [ixps (by omega) (by omega), wr1 (by omega), Int.toNat_natCast]
    refine ⟨by omega, by omega, ih _ (h2.up (by simp)) (fun k hk => ?_) (fun s hs => ?_)⟩
    · rw [up_nk (by omega)]; exact o2 k hk
    · by_cases e : s = j
      · rw [e, up_self]
      · rw [up_nk (by omega)]; exact w2 s (by omega)
theorem m_comes227 {d : Nat} {R : RSt} {ti : Int} {σ T : Sg} {K : Kt} (hv : MV σ 88 T) (hm : MX σ 88 T) (hw : WF T) (h8 : T 0 1 < 8) (f20 : σ 85 20 = R.set) (f21 : σ 85 21 = R.hid) (g1 : R.a = -4 → σ 85 23 = 0) (g2 : R.a ≠ -4 → σ 85 23 ≠ 0 ∧ ti = R.a) (ha : R.a = -4 ∨ R.a < T 0 1) (hQ : DOm σ K (if (T 0 1 < 8 ∧ (R.a = -4 ∨ R.a < T 0 1)) ∧ bAnd R.hid (bXor R.set (-1)) = 0 then some (tPer T R.set R.a R.hid) else none)) : wpL (wpCall d) mX7_comes K 227 [aR 85, aU, aI ti, aU, aI (σ 88 1), aU, aU] [] σ := by
  obtain ⟨⟨e0, e1, e2, e3, e4⟩, eh, ew, ep⟩ := id hv
  obtain ⟨⟨⟨a1, a2⟩, ⟨a3, a4⟩, ⟨a5, a6⟩, ⟨a7, a8⟩, a9⟩, wh, ww, wp⟩ := id hw
  have hnP : ((nP T : Nat) : Int) = T 0 1 := Int.toNat_of_nonneg a3
  have hnS : ((nS T : Nat) : Int) = T 0 0 := Int.toNat_of_nonneg a1
  have l88 : LEN 88 = 107 := rfl
  have en : σ 88 1 = ((nP T : Nat) : Int) := by omega
  obtain ⟨n, hn⟩ : ∃ n : Nat, nP T = n := ⟨_, rfl⟩
  rw [en]
  refine bX7_comes_227 ?_
  rw [hn] at en ⊢
  rw [ixp0 (by omega), ixp1 (by omega), ixp2 (by omega), ixp3 (by omega), ixpb (by omega), Int.toNat_natCast, Int.toNat_natCast, Int.toNat_natCast, Int.toNat_natCast]
  simp only [up_ne (show (85 : Nat) ≠ 88 by omega), f20, f21]
  have fin : ∀ t', t' = R.a → bAnd R.hid (bXor R.set (-1)) = 0 → wpL (wpCall d) mX7_comes K 315 [aR 85, aU, aU, aU, aU, aI ((35 + 9 * n : Nat) : Int), aI 0] [] (up (up (up (up σ 88 (35 + 9 * n) R.set) 88 (36 + 9 * n) R.hid) 88 (37 + 9 * n) t') 88 (38 + 9 * n) (-4)) := by
    intro t' ht' hz
    rw [if_pos ⟨⟨h8, ha⟩, hz⟩] at hQ
    subst ht'
    have := m_comes315 (d := d) (c := R.set) (ti := R.a) (hi := R.hid) (K := K) (σ1 := up (up (up (up σ 88 (35 + 9 * n) R.set) 88 (36 + 9 * n) R.hid) 88 (37 + 9 * n) R.a) 88 (38 + 9 * n) (-4)) hv hm hw h8 ((((Ex.rf.up (by simp)).up (by simp)).up (by simp)).up (by simp)) (by rw [up_nk (by omega), up_nk (by omega), up_nk (by omega), up_nk (by omega)]; exact e1) (fun k hk => by rw [hn] at hk; rw [up_nk (by omega), up_nk (by omega), up_nk (by omega), up_nk (by omega)]) (by rw [hn, up_nk (by omega), up_nk (by omega), up_nk (by omega), up_self]) (by rw [hn, up_nk (by omega), up_nk (by omega), up_self]) (by rw [hn, up_nk (by omega), up_self]) (by rw [hn, up_self]) hQ
    rw [hn] at this
    exact this
  refine ⟨fun hz => ⟨by omega, by omega, by omega, by omega, fun t0 => ⟨by omega, by omega, by omega, by omega, ?_⟩, fun t0 => ⟨by omega, by omega, by omega, by omega, ?_⟩⟩, fun hz => ⟨by decide, ?_⟩⟩
  · exact fin (-4) (by
      by_cases q : R.a = -4
      · exact q.symm
      · exact absurd t0 (g2 q).1) hz
  · exact fin ti (g2 (fun q => t0 (g1 q))).2 hz
  · rw [if_neg (fun g => hz g.2)] at hQ; exact hQ
theorem m_comes {d n p : Nat} {l : Int} {R : RSt} {σ T : Sg} {K : Kt} (hv : MV σ 88 T) (hm : MX σ 88 T) (hw : WF T) (hf : MFLD σ l R) (hr : RK l n p R) (hok : R.ok = true) (hQ : DOm σ K (doS l R T)) : wpCall (d + 1) iX7_comes [aR 85, aI l] σ K := by
  obtain ⟨⟨e0, e1, e2, e3, e4⟩, eh, ew, ep⟩ := id hv
  obtain ⟨⟨⟨a1, a2⟩, ⟨a3, a4⟩, ⟨a5, a6⟩, ⟨a7, a8⟩, a9⟩, wh, ww, wp⟩ := id hw
  have hnP : ((nP T : Nat) : Int) = T 0 1 := Int.toNat_of_nonneg a3
  have hnS : ((nS T : Nat) : Int) = T 0 0 := Int.toNat_of_nonneg a1
  have l88 : LEN 88 = 107 := rfl
  have l100 : LEN 100 = 3 := rfl
  obtain ⟨h6, -, -, ha, ha9, hb, hc, hs, hh⟩ := hr.2 hok
  obtain ⟨f0, f1, f2, f20, f21⟩ := hf
  unfold doS at hQ
  refine bX7_comes ⟨by omega, by omega, by omega, by omega, fun q => ?_, fun q => by omega, fun q => by omega, fun q => by omega, fun q => ?_, fun q => by omega, fun q => by omega, fun q => ?_, fun q => by omega, fun q => by omega, fun q => by omega, fun q => ?_, fun q => by omega, fun q => ?_, fun q => ?_⟩
  · have f0 := f0 (by omega); have f1 := f1 (by omega); have f20 := f20 (by omega)
    rw [if_neg (by omega), if_neg (by omega), if_neg (by omega), if_neg (by omega), if_pos q] at hQ
    rw [up_ne (by omega), up_ne (by omega), f0, f1, f20]
    refine ⟨fun z => ⟨by decide, ?_⟩, fun z => ⟨fun z2 => ⟨by decide, ?_⟩, fun z2 => ⟨by omega, by omega, by omega, by omega, by omega, by omega, by decide, ?_⟩⟩⟩
    · rw [if_neg (by omega)] at hQ; exact hQ
    · rw [if_neg (by omega)] at hQ; exact hQ
    · rw [if_pos (by omega)] at hQ
      exact hQ _ (((Ex.rf.up (by simp)).up (by simp)).up (by simp)) (MV_tLaw hv hm hw)
  · have f20 := f20 (by omega); have f21 := f21 (by omega)
    rw [if_neg (by omega), if_neg (by omega), if_pos q] at hQ
    refine ⟨by omega, by omega, fun z => ⟨by decide, ?_⟩, fun z => ?_⟩
    · rw [if_neg (by omega)] at hQ; exact hQ
    have g21 := f21.2.1
    have g22 := f21.2.2
    have f21 := f21.1
    have nn : ∀ g : ¬ ((T 0 1 < 8 ∧ (R.a = -4 ∨ R.a < T 0 1)) ∧ bAnd R.hid (bXor R.set (-1)) = 0), ((0 : Int) = 0 ∨ (0 : Int) = 1) ∧ K 0 σ := fun g => by
      rw [if_neg g] at hQ; exact ⟨by decide, hQ⟩
    refine ⟨fun z2 => ?_, fun z2 => ⟨fun z3 => ?_, fun z3 => ?_⟩⟩
    · exact m_comes227 hv hm hw (by omega) f20 f21 g21 (fun g => absurd z2 (g22 g).1) (Or.inl (Decidable.byContradiction fun g => (g22 g).1 z2)) hQ
    · exact m_comes227 hv hm hw (by omega) f20 f21 g21 (fun g => ⟨z2, (g22 g).2⟩) (by
        by_cases g : R.a = -4
        · exact Or.inl g
        · have := (g22 g).2; omega) hQ
    · have ne : R.a ≠ -4 := fun g => z2 (g21 g)
      have := (g22 ne).2
      exact nn (by omega)
  · have f0 := f0 (by omega)
    rw [if_pos q] at hQ
    rw [f0]
    refine ⟨fun z => ⟨by decide, ?_⟩, fun z => ⟨fun z2 => ⟨by decide, ?_⟩, fun z2 => ⟨by omega, by omega, fun z3 => ⟨by decide, ?_⟩, fun z3 => ?_⟩⟩⟩
    · rw [if_neg (by omega)] at hQ; exact hQ
    · rw [if_neg (by omega)] at hQ; exact hQ
    · rw [if_neg (by omega)] at hQ; exact hQ
    · rw [if_pos (by omega)] at hQ
      have en : σ 88 0 = ((nS T : Nat) : Int) := by omega
      rw [en, ixh (by omega), Int.toNat_natCast, up_nk (by omega), en, wr1 (by omega)]
      refine ⟨by omega, by omega, by omega, by omega, by omega, by omega, by omega, by omega, by decide, hQ _ ((Ex.rf.up (by simp)).up (by simp)) ?_⟩
      have := MV_tStr (h := R.a) hv hm hw (by omega)
      rw [show T 0 0 + 1 = ((nS T + 1 : Nat) : Int) by omega] at this
      exact this
  · have f0 := f0 (by omega); have f1 := f1 (by omega); have f2 := f2 (by omega)
    rw [if_neg (by omega), if_neg (by omega), if_neg (by omega), if_pos q] at hQ
    have na : R.a = (R.a.toNat : Nat) := by omega
    have nb : R.b = (R.b.toNat : Nat) := by omega
    rw [f0, f1, f2, e0, e1]
    refine ⟨by omega, by omega, fun z => ⟨by omega, by omega, fun z2 => ?_, fun z2 => ⟨by decide, ?_⟩⟩, fun z => ⟨by decide, ?_⟩⟩
    · rw [if_pos (by omega)] at hQ
      rw [na, nb, ix9w (by omega) (by omega), Int.toNat_natCast]
      exact ⟨by omega, by omega, by omega, by omega, by decide, hQ _ (Ex.rf.up (by simp)) (MV_tWish hv hm hw (by omega) (by omega))⟩
    · rw [if_neg (by omega)] at hQ; exact hQ
    · rw [if_neg (by omega)] at hQ; exact hQ
  · have f0 := f0 (by omega); have f1 := f1 (by omega); have f2 := f2 (by omega)
    rw [if_neg (by omega), if_pos q] at hQ
    have na : R.a = (R.a.toNat : Nat) := by omega
    have nb : R.b = (R.b.toNat : Nat) := by omega
    rw [up_ne (by omega), f0, f1, f2, e0]
    refine ⟨by omega, by omega, fun z => ⟨by omega, by omega, fun z2 => ⟨fun z3 => ⟨by decide, ?_⟩, fun z3 => ?_⟩, fun z2 => ⟨by decide, ?_⟩⟩, fun z => ⟨by decide, ?_⟩⟩
    · rw [if_neg (by omega)] at hQ; exact hQ
    · rw [if_pos (by omega)] at hQ
      rw [na, nb, ixw (by omega) (by omega), ixw (by omega) (by omega), Int.toNat_natCast, Int.toNat_natCast]
      exact ⟨by omega, by omega, by omega, by omega, by omega, by omega, by omega, by omega, by decide, hQ _ ((Ex.rf.up (by simp)).up (by simp)) (MV_tWay hv hm hw (by omega) (by omega))⟩
    · rw [if_neg (by omega)] at hQ; exact hQ
    · rw [if_neg (by omega)] at hQ; exact hQ
  · have f0 := f0 (by omega); have f1 := f1 (by omega)
    rw [if_neg (by omega), if_neg (by omega), if_neg (by omega), if_neg (by omega), if_neg (by omega)] at hQ
    have na : R.a = (R.a.toNat : Nat) := by omega
    rw [f0, f1, e0, e1]
    refine ⟨by omega, by omega, fun z => ⟨by omega, by omega, fun z2 => ?_, fun z2 => ⟨by decide, ?_⟩⟩, fun z => ⟨by decide, ?_⟩⟩
    · rw [if_pos (by omega)] at hQ
      have := ix9 (p := R.a.toNat) (k := 3) (by omega) (by omega)
      rw [← na, show ((3 : Nat) : Int) = 3 from rfl] at this
      rw [this, Int.toNat_natCast]
      have g := MV_tLive (p := R.a.toNat) (v := R.b) hv hm hw (by omega)
      rw [show lv R.b = R.b by unfold lv; rw [if_neg (by omega)]] at g
      exact ⟨by omega, by omega, by decide, hQ _ (Ex.rf.up (by simp)) g⟩
    · rw [if_neg (by omega)] at hQ; exact hQ
    · rw [if_neg (by omega)] at hQ; exact hQ
