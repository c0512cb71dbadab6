/-! the law by nibbles -/
def pkI (n : Nat → Int) : Int := n 0 + 16 * n 1 + 256 * n 2 + 4096 * n 3 + 65536 * n 4 + 1048576 * n 5 + 16777216 * n 6 + 268435456 * n 7
theorem pkI_add (n m : Nat → Int) : pkI (fun c => n c + m c) = pkI n + pkI m := by unfold pkI; dsimp only; omega
theorem dig {q Q r : Nat} (hr : r < 16) : (16 * q + r) &&& (16 * Q + 8) = 16 * (q &&& Q) + (r &&& 8) := by
  have h8 : (r &&& 8) < 2 ^ 4 := Nat.lt_of_le_of_lt Nat.and_le_left hr
  apply Nat.eq_of_testBit_eq
  intro i
  rw [Nat.testBit_and, show (16 : Nat) = 2 ^ 4 from rfl, Nat.testBit_two_pow_mul_add _ (show r < 2 ^ 4 from hr), Nat.testBit_two_pow_mul_add _ (show 8 < 2 ^ 4 by decide), Nat.testBit_two_pow_mul_add _ h8]
  by_cases h : i < 4
  · rw [if_pos h, if_pos h, if_pos h, Nat.testBit_and]
  · rw [if_neg h, if_neg h, if_neg h, Nat.testBit_and]
theorem dig0 {q Q r : Nat} (hr : r < 16) : (16 * q + r) &&& (16 * Q + 8) = 0 ↔ (q &&& Q = 0 ∧ r < 8) := by
  rw [dig hr]
  have key : ∀ r, r < 16 → ((r &&& 8 = 0) ↔ r < 8) := by decide +kernel
  have := key r hr
  omega
theorem and88 {m : Nat → Nat} (hm : ∀ c, c < 8 → m c < 16) {Y : Nat} (hY : Y = 16 * (16 * (16 * (16 * (16 * (16 * (16 * m 7 + m 6) + m 5) + m 4) + m 3) + m 2) + m 1) + m 0) : Y &&& 2290649224 = 0 ↔ ∀ c, c < 8 → m c < 8 := by
  subst hY
  rw [show (2290649224 : Nat) = 16 * (16 * (16 * (16 * (16 * (16 * (16 * (16 * 0 + 8) + 8) + 8) + 8) + 8) + 8) + 8) + 8 from rfl]
  rw [dig0 (hm 0 (by omega)), dig0 (hm 1 (by omega)), dig0 (hm 2 (by omega)), dig0 (hm 3 (by omega)), dig0 (hm 4 (by omega)), dig0 (hm 5 (by omega)), dig0 (hm 6 (by omega)), show m 7 = 16 * 0 + m 7 by omega, dig0 (hm 7 (by omega))]
  constructor
  · rintro ⟨⟨⟨⟨⟨⟨⟨⟨-, h7⟩, h6⟩, h5⟩, h4⟩, h3⟩, h2⟩, h1⟩, h0⟩ c hc
    match c, hc with
    | 0, _ => exact h0
    | 1, _ => exact h1
    | 2, _ => exact h2
    | 3, _ => exact h3
    | 4, _ => exact h4
    | 5, _ => exact h5
    | 6, _ => exact h6
    | 7, _ => exact h7
    | c + 8, hc => omega
  · intro h
    exact ⟨⟨⟨⟨⟨⟨⟨⟨by simp, h 7 (by omega)⟩, h 6 (by omega)⟩, h 5 (by omega)⟩, h 4 (by omega)⟩, h 3 (by omega)⟩, h 2 (by omega)⟩, h 1 (by omega)⟩, h 0 (by omega)⟩
theorem tooMuch {n : Nat → Int} {e : Int} (hn : ∀ c, c < 8 → 0 ≤ n c ∧ n c ≤ 8) (he : 1 ≤ e ∧ e ≤ 3) : bAnd (wr (wr (pkI n) + wr (wr (7 - e) * 286331153))) (-2004318072) = 0 ↔ ∀ c, c < 8 → n c ≤ e := by
  have hs : wr (wr (pkI n) + wr (wr (7 - e) * 286331153)) = wr (pkI (fun c => n c + (7 - e))) := by
    rw [wr_id (x := 7 - e) ⟨by omega, by omega⟩]
    have e1 : pkI (fun c => n c + (7 - e)) = pkI n + (7 - e) * 286331153 := by unfold pkI; dsimp only; omega
    rw [e1]
    apply wr_eq_of
    rw [Int.add_emod, wr_mod, wr_mod, ← Int.add_emod]
  rw [hs]
  have g0 := hn 0 (by omega)
  have g1 := hn 1 (by omega)
  have g2 := hn 2 (by omega)
  have g3 := hn 3 (by omega)
  have g4 := hn 4 (by omega)
  have g5 := hn 5 (by omega)
  have g6 := hn 6 (by omega)
  have g7 := hn 7 (by omega)
  obtain ⟨Y, hY⟩ : ∃ Y : Nat, pkI (fun c => n c + (7 - e)) = Y := ⟨(pkI (fun c => n c + (7 - e))).toNat, by unfold pkI; dsimp only; omega⟩
  have hY2 : Y < 2 ^ 32 := by unfold pkI at hY; dsimp only at hY; omega
  have a8 := and88 (m := fun c => (n c + (7 - e)).toNat) (fun c hc => by have := hn c hc; omega) (Y := Y) (by unfold pkI at hY; dsimp only at hY; omega)
  rw [hY]
  have e3 : bAnd (wr (Y : Int)) (-2004318072) = 0 ↔ Y &&& 2290649224 = 0 := by
    unfold bAnd
    rw [i32_wr, show (0 : Int) = (0 : Int32).toInt from rfl, Int32.toInt_inj, ← Int32.toBitVec_inj, ← BitVec.toNat_inj]
    show (_ &&& _ : BitVec 32).toNat = _ ↔ _
    rw [BitVec.toNat_and, tn_of hY2, show (Int32.ofInt (-2004318072)).toBitVec.toNat = 2290649224 from rfl]
    rfl
  rw [e3, a8]
  constructor
  · intro h c hc
    have h1 := h c hc
    have h2 := hn c hc
    omega
  · intro h c hc
    have h1 := h c hc
    have h2 := hn c hc
    omega
theorem s_isTooMuch {d t : Nat} {σ T : Sg} {n : Nat → Int} {K : Kt} (hv : TV σ t T) (hw : WF T) (hn : ∀ c, c < 8 → 0 ≤ n c ∧ n c ≤ 8) (h1 : ¬ (∀ c, c < 8 → n c ≤ T 0 2) → K 1 σ) (h0 : (∀ c, c < 8 → n c ≤ T 0 2) → K 0 σ) : wpCall (d + 1) iX3_isTooMuch [aR t, aI (wr (pkI n))] σ K := by
  obtain ⟨ht, ⟨e0, e3, e9, e10, e11⟩, eh, ew, ep⟩ := id hv
  obtain ⟨l1, l2, l3, l4, l5, l6, l7, l8⟩ := tw_len ht
  obtain ⟨⟨⟨a1, a2⟩, ⟨a3, a4⟩, ⟨a5, a6⟩, ⟨a7, a8⟩, a9⟩, wh, ww, wp⟩ := id hw
  have hnP : ((nP T : Nat) : Int) = T 0 1 := Int.toNat_of_nonneg a3
  have hnS : ((nS T : Nat) : Int) = T 0 0 := Int.toNat_of_nonneg a1
  refine bX3_isTooMuch ?_
  rw [e9]
  have h := tooMuch hn ⟨a5, a6⟩
  exact ⟨ht, fun q => ⟨by decide, h0 (h.mp q)⟩, fun q => ⟨by decide, h1 (fun z => q (h.mpr z))⟩⟩
theorem U8_shn {T : Sg} {p : Nat} (hw : WF T) (hp : (p : Int) < T 0 1) : U8 (shn T p) := U8_andn (hw.2.2.2 p hp).1 (hw.2.2.2 p hp).2.1
theorem U8_own {T : Sg} {p : Nat} (hw : WF T) (hp : (p : Int) < T 0 1) : U8 (own T p) := U8_and (U8_shn hw hp) hw.1.2.2.2.2
def lod (x : Int) : Int := pkI (fun c => b2i (bit x c))
theorem s_loadOf {d t p : Nat} {σ T : Sg} {K : Kt} (hv : TV σ t T) (hw : WF T) (hp : (p : Int) < T 0 1) (hk : K (lod (own T p)) σ) : wpCall (d + 1) iX3_loadOf [aR t, aI (p : Nat)] σ K := by
  obtain ⟨ht, ⟨e0, e3, e9, e10, e11⟩, eh, ew, ep⟩ := id hv
  obtain ⟨l1, l2, l3, l4, l5, l6, l7, l8⟩ := tw_len ht
  obtain ⟨⟨⟨a1, a2⟩, ⟨a3, a4⟩, ⟨a5, a6⟩, ⟨a7, a8⟩, a9⟩, wh, ww, wp⟩ := id hw
  have hnP : ((nP T : Nat) : Int) = T 0 1 := Int.toNat_of_nonneg a3
  have hnS : ((nS T : Nat) : Int) = T 0 0 := Int.toNat_of_nonneg a1
  obtain ⟨n, hn, en⟩ := U8_nat (U8_own hw hp)
  have en2 : bAnd (bAnd (T 3 p) (bXor (T 4 p) (-1))) (T 0 4) = (n : Int) := en
  refine bX3_loadOf ?_
  rw [Int.toNat_natCast, (ep p hp).1, (ep p hp).2.1, e11, en2]
  refine ⟨ht, by omega, by omega, ht, by omega, by omega, ht, kq hk ?_⟩
  rw [en]
  have key : ∀ n, n < 256 → (fun x : Int => bAnd (bOr (bAnd (bOr (bAnd (bOr x (bShl x 12)) 983055) (bShl (bAnd (bOr x (bShl x 12)) 983055) 6)) 50529027) (bShl (bAnd (bOr (bAnd (bOr x (bShl x 12)) 983055) (bShl (bAnd (bOr x (bShl x 12)) 983055) 6)) 50529027) 3)) 286331153) (Int.ofNat n) = lod (Int.ofNat n) := by decide +kernel
  exact key n hn
theorem lod_r (x : Int) : 0 ≤ lod x ∧ lod x ≤ 286331153 := by
  have h := fun c => b2i_r (bit x c)
  have h0 := h 0
  have h1 := h 1
  have h2 := h 2
  have h3 := h 3
  have h4 := h 4
  have h5 := h 5
  have h6 := h 6
  have h7 := h 7
  unfold lod pkI
  dsimp only
  omega
theorem s_addLoad {d t a : Nat} {x : Int} {σ T : Sg} {K : Kt} (hv : TV σ t T) (hw : WF T) (ha : (a : Int) < T 0 0) (hk : ∀ σ', Ex [t + 8] σ σ' → (∀ o : Nat, (o : Int) < T 0 0 → σ' (t + 8) o = if tog T a o = true then wr (σ (t + 8) o + x) else σ (t + 8) o) → K 0 σ') : wpCall (d + 2) iX3_addLoad [aR t, aI (a : Nat), aI x] σ K := by
  obtain ⟨ht, ⟨e0, e3, e9, e10, e11⟩, eh, ew, ep⟩ := id hv
  obtain ⟨l1, l2, l3, l4, l5, l6, l7, l8⟩ := tw_len ht
  obtain ⟨⟨⟨a1, a2⟩, ⟨a3, a4⟩, ⟨a5, a6⟩, ⟨a7, a8⟩, a9⟩, wh, ww, wp⟩ := id hw
  have hnP : ((nP T : Nat) : Int) = T 0 1 := Int.toNat_of_nonneg a3
  have hnS : ((nS T : Nat) : Int) = T 0 0 := Int.toNat_of_nonneg a1
  have tv : ∀ {σ1}, Ex [t + 8] σ σ1 → TV σ1 t T := fun h => hv.ex h (fun i hi => by simp; omega)
  refine bX3_addLoad (dwn (W := fun p => ∀ σ1, Ex [t + 8] σ σ1 → (∀ o : Nat, (o : Int) < T 0 0 → σ1 (t + 8) o = if o < p ∧ tog T a o = true then wr (σ (t + 8) o + x) else σ (t + 8) o) → wpL (wpCall (d + 1)) mX3_addLoad K 2 [aR t, aI (a : Nat), aI x, aI (p : Nat)] [] σ1) (nS T) (fun σ1 he hi => ?_) (fun p hp ih σ1 he hi => ?_) 0 (Nat.zero_le _) σ Ex.rf (fun o ho => by simp))
  · obtain ⟨-, ⟨f0, f3, -⟩, -⟩ := tv he
    refine bX3_addLoad_2 ⟨ht, fun h => absurd h (by omega), fun _ => hk σ1 he (fun o ho => ?_)⟩
    rw [hi o ho]
    have : o < nS T := by omega
    simp [this]
  · obtain ⟨-, ⟨f0, f3, -⟩, -⟩ := tv he
    refine bX3_addLoad_2 ⟨ht, fun h => ⟨ht, s_countTogether (tv he) hw ha (by omega) (fun q => br_f2 (by decide) ⟨ht, by omega, by omega, by omega, by omega, ?_⟩) (fun q => br_t2 rfl ?_)⟩, fun h => absurd hp (by omega)⟩
    · rw [wr1 (by omega), Int.toNat_natCast]
      refine ih _ (he.up (by simp)) (fun o ho => ?_)
      by_cases e : o = p
      · subst e
        rw [up_self, hi o ho]
        simp [q]
      · rw [up_nk e, hi o ho]
        have : (o < p) ↔ (o < p + 1) := by omega
        simp [this]
    · rw [wr1 (by omega)]
      refine ih _ he (fun o ho => ?_)
      rw [hi o ho]
      by_cases e : o = p
      · subst e; simp [q]
      · have : (o < p) ↔ (o < p + 1) := by omega
        simp [this]
theorem s_fill {d a : Nat} {x : Int} {σ : Sg} {K : Kt} (ha : 0 < LEN a) (hl : LEN a < 1000) (hk : ∀ σ', Ex [a] σ σ' → (∀ k : Nat, (k : Int) < LEN a → σ' a k = x) → K 0 σ') : wpCall (d + 1) iJ_fill [aR a, aI x] σ K := by
  refine bJ_fill ⟨ha, dwn (W := fun p => ∀ σ1, Ex [a] σ σ1 → (∀ k : Nat, k < p → σ1 a k = x) → wpL (wpCall d) mJ_fill K 5 [aR a, aI x, aI (p : Nat), aI (LEN a)] [] σ1) (LEN a).toNat (fun σ1 he hi => ?_) (fun p hp ih σ1 he hi => ?_) 0 (Nat.zero_le _) σ Ex.rf (fun o ho => by omega)⟩
  · exact bJ_fill_5 ⟨fun h => absurd h (by omega), fun _ => hk σ1 he (fun k hk2 => hi k (by omega))⟩
  · refine bJ_fill_5 ⟨fun h => ⟨by omega, by omega, ?_⟩, fun h => absurd hp (by omega)⟩
    rw [wr1 (by omega), Int.toNat_natCast]
    refine ih _ (he.up (by simp)) (fun k hk2 => ?_)
    by_cases e : k = p
    · subst e; rw [up_self]
    · rw [up_nk e]; exact hi k (by omega)
theorem cntL_r (T : Sg) (s c : Nat) (h : T 0 1 ≤ 8) : 0 ≤ cntL T s c ∧ cntL T s c ≤ 8 := by
  have := cnt_r (fun p => !decide (T 7 p = 9) && (tog T (T 7 p).toNat s && bit (own T p) c)) (nP T)
  have h8 : ((nP T : Nat) : Int) ≤ 8 := by unfold nP; omega
  unfold cntL
  omega
theorem s_weighStreets {d t : Nat} {σ T : Sg} {K : Kt} (hv : TV σ t T) (hw : WF T) (hk : ∀ σ', Ex [t + 8] σ σ' → (∀ o : Nat, (o : Int) < T 0 0 → σ' (t + 8) o = wr (pkI (cntL T o))) → K 0 σ') : wpCall (d + 3) iX3_weighStreets [aR t] σ K := by
  obtain ⟨ht, ⟨e0, e3, e9, e10, e11⟩, eh, ew, ep⟩ := id hv
  obtain ⟨l1, l2, l3, l4, l5, l6, l7, l8⟩ := tw_len ht
  obtain ⟨⟨⟨a1, a2⟩, ⟨a3, a4⟩, ⟨a5, a6⟩, ⟨a7, a8⟩, a9⟩, wh, ww, wp⟩ := id hw
  have hnP : ((nP T : Nat) : Int) = T 0 1 := Int.toNat_of_nonneg a3
  have hnS : ((nS T : Nat) : Int) = T 0 0 := Int.toNat_of_nonneg a1
  have tv : ∀ {σ1}, Ex [t + 8] σ σ1 → TV σ1 t T := fun h => hv.ex h (fun i hi => by simp; omega)
  refine bX3_weighStreets ⟨ht, s_fill (by omega) (by omega) (fun σ0 h0 hz => ?_)⟩
  refine dwn (W := fun p => ∀ σ1, Ex [t + 8] σ σ1 → (∀ o : Nat, (o : Int) < T 0 0 → σ1 (t + 8) o = wr (pkI (fun c => cnt (fun p => !decide (T 7 p = 9) && (tog T (T 7 p).toNat o && bit (own T p) c)) p))) → wpL (wpCall (d + 2)) mX3_weighStreets K 10 [aR t, aI (p : Nat)] [] σ1) (nP T) (fun σ1 he hi => ?_) (fun p hp ih σ1 he hi => ?_) 0 (Nat.zero_le _) σ0 h0 (fun o ho => by rw [hz o (by omega)]; rfl)
  · obtain ⟨-, ⟨f0, f3, -⟩, -⟩ := tv he
    exact bX3_weighStreets_10 ⟨ht, fun h => absurd h (by omega), fun _ => hk σ1 he hi⟩
  · obtain ⟨-, ⟨f0, f3, -⟩, -, -, fp⟩ := tv he
    have c7 := (fp p (by omega)).2.2.2.1
    have w7 := (wp p (by omega)).2.2.2.1
    refine bX3_weighStreets_10 ?_
    rw [Int.toNat_natCast, c7]
    refine ⟨ht, fun h => ⟨ht, by omega, by omega, fun q => ?_, fun q => ⟨ht, by omega, by omega, ht, s_loadOf (tv he) hw (by omega) ⟨ht, ?_⟩⟩⟩, fun h => absurd hp (by omega)⟩
    · rw [wr1 (by omega)]
      refine ih _ he (fun o ho => ?_)
      rw [hi o ho]
      congr 2
      funext c
      rw [cnt_f (by simp [q])]
    · obtain ⟨s, hs⟩ : ∃ s : Nat, T 7 p = s := ⟨(T 7 p).toNat, by omega⟩
      rw [hs]
      refine s_addLoad (tv he) hw (by omega) (fun σ2 h2 hz2 => ?_)
      rw [wr1 (by omega)]
      refine ih _ (he.tr h2 (fun _ h => h) (fun _ h => h)) (fun o ho => ?_)
      rw [hz2 o ho, hi o ho]
      have q9 : (s : Int) ≠ 9 := by omega
      by_cases g : tog T s o = true
      · rw [if_pos g, lod]
        have e1 : ∀ x y : Int, wr (wr x + y) = wr (x + y) := fun x y => by unfold wr; omega
        rw [e1, ← pkI_add]
        congr 2
        funext c
        by_cases b : bit (own T p) c = true
        · rw [cnt_t (by simp [hs, q9, g, b]), b]; rfl
        · rw [cnt_f (by simp [b]), show bit (own T p) c = false by simpa using b]; exact Int.add_zero _
      · rw [if_neg g]
        congr 2
        funext c
        rw [cnt_f (by simp [hs, g])]
theorem over_iff {T : Sg} {s : Nat} : over T s = false ↔ ∀ c, c < 8 → cntL T s c ≤ T 0 2 := by
  have key : ∀ (f : Nat → Bool) (k i : Nat), allI f k i = true ↔ ∀ c, i ≤ c → c < i + k → f c = true := by
    intro f k
    induction k with
    | zero => intro i; simp [allI]; omega
    | succ k ih =>
      intro i
      simp only [allI, Bool.and_eq_true, ih]
      constructor
      · rintro ⟨h1, h2⟩ c h3 h4
        by_cases e : c = i
        · rw [e]; exact h1
        · exact h2 c (by omega) (by omega)
      · intro h
        exact ⟨h i (by omega) (by omega), fun c h1 h2 => h c (by omega) (by omega)⟩
  unfold over
  rw [Bool.not_eq_false', key]
  constructor
  · intro h c hc
    simpa using h c (by omega) (by omega)
  · intro h c _ hc
    simpa using h c (by omega)
theorem s_lawHolds {d t : Nat} {σ T : Sg} {K : Kt} (hv : TV σ t T) (hw : WF T) (h1 : lawH T = true → ∀ σ', Ex [t + 8] σ σ' → K 1 σ') (h0 : lawH T = false → ∀ σ', Ex [t + 8] σ σ' → K 0 σ') : wpCall (d + 4) iX3_lawHolds [aR t] σ K := by
  obtain ⟨ht, ⟨e0, e3, e9, e10, e11⟩, eh, ew, ep⟩ := id hv
  obtain ⟨l1, l2, l3, l4, l5, l6, l7, l8⟩ := tw_len ht
  obtain ⟨⟨⟨a1, a2⟩, ⟨a3, a4⟩, ⟨a5, a6⟩, ⟨a7, a8⟩, a9⟩, wh, ww, wp⟩ := id hw
  have hnP : ((nP T : Nat) : Int) = T 0 1 := Int.toNat_of_nonneg a3
  have hnS : ((nS T : Nat) : Int) = T 0 0 := Int.toNat_of_nonneg a1
  refine bX3_lawHolds ⟨ht, s_weighStreets hv hw (fun σ1 he hz => ?_)⟩
  have hv1 : TV σ1 t T := hv.ex he (fun i hi => by simp; omega)
  obtain ⟨-, ⟨f0, f3, -⟩, -, -, fp⟩ := id hv1
  have key : ∀ k p : Nat, p + k = nS T → (allI (fun s => !over T s) k p = true → K 1 σ1) → (allI (fun s => !over T s) k p = false → K 0 σ1) → wpL (wpCall (d + 3)) mX3_lawHolds K 6 [aR t, aI (p : Nat)] [] σ1 := by
    intro k
    induction k with
    | zero => exact fun p hp g1 g0 => bX3_lawHolds_6 ⟨ht, fun h => absurd h (by omega), fun _ => ⟨by decide, g1 rfl⟩⟩
    | succ k ih =>
      intro p hp g1 g0
      refine bX3_lawHolds_6 ⟨ht, fun h => ⟨ht, by omega, by omega, ht, ?_⟩, fun h => absurd h (by omega)⟩
      rw [Int.toNat_natCast, hz p (by omega)]
      refine s_isTooMuch hv1 hw (fun c hc => cntL_r T p c a4) (fun q => br_f2 (by decide) ⟨by decide, g0 ?_⟩) (fun q => br_t2 rfl ?_)
      · have : over T p = true := by
          cases h : over T p with
          | true => rfl
          | false => exact absurd (over_iff.mp h) q
        simp [allI, this]
      · have : over T p = false := over_iff.mpr q
        rw [wr1 (by omega)]
        exact ih (p + 1) (by omega) (fun z => g1 (by simp [allI, this, z])) (fun z => g0 (by simp [allI, this, z]))
  exact key (nS T) 0 (by omega) (fun q => h1 q σ1 he) (fun q => h0 q σ1 he)
theorem s_firstBroken {d t : Nat} {σ T : Sg} {K : Kt} (hv : TV σ t T) (hw : WF T) (hk : ∀ σ', Ex [t + 8] σ σ' → K (fb T) σ') : wpCall (d + 4) iX3_firstBroken [aR t] σ K := by
  obtain ⟨ht, ⟨e0, e3, e9, e10, e11⟩, eh, ew, ep⟩ := id hv
  obtain ⟨l1, l2, l3, l4, l5, l6, l7, l8⟩ := tw_len ht
  obtain ⟨⟨⟨a1, a2⟩, ⟨a3, a4⟩, ⟨a5, a6⟩, ⟨a7, a8⟩, a9⟩, wh, ww, wp⟩ := id hw
  have hnP : ((nP T : Nat) : Int) = T 0 1 := Int.toNat_of_nonneg a3
  have hnS : ((nS T : Nat) : Int) = T 0 0 := Int.toNat_of_nonneg a1
  refine bX3_firstBroken ⟨ht, s_weighStreets hv hw (fun σ1 he hz => ?_)⟩
  have hv1 : TV σ1 t T := hv.ex he (fun i hi => by simp; omega)
  obtain ⟨-, ⟨f0, f3, -⟩, fh, -, fp⟩ := id hv1
  have key : ∀ k p : Nat, p + k = nS T → K (fstI (bad T) (if ties T then -4 else 9) k p) σ1 → wpL (wpCall (d + 3)) mX3_firstBroken K 6 [aR t, aI (p : Nat)] [] σ1 := by
    intro k
    induction k with
    | zero =>
      intro p hp g
      refine bX3_firstBroken_6 ⟨ht, fun h => absurd h (by omega), fun _ => ⟨ht, s_tiesHold hv1 hw (fun q => br_f2 (by decide) (kq g ?_)) (fun q => br_t2 rfl (kq g ?_))⟩⟩
      · simp [fstI, q]
      · simp [fstI, q]
    | succ k ih =>
      intro p hp g
      refine bX3_firstBroken_6 ⟨ht, fun h => ⟨ht, s_crowdIn hv1 hw ?_⟩, fun h => absurd h (by omega)⟩
      rw [Int.toNat_natCast, hz p (by omega), fh p (by omega)]
      refine ⟨ht, by omega, by omega, fun q => kq g ?_, fun q => ⟨ht, by omega, by omega, ht, s_isTooMuch hv1 hw (fun c hc => cntL_r T p c a4) (fun q2 => br_f2 (by decide) (kq g ?_)) (fun q2 => br_t2 rfl ?_)⟩⟩
      · simp [fstI, bad, q]
      · have : over T p = true := by
          cases h : over T p with
          | true => rfl
          | false => exact absurd (over_iff.mp h) q2
        simp [fstI, bad, this]
      · have : over T p = false := over_iff.mpr q2
        have hb : bad T p = false := by simp [bad, this, q]
        rw [wr1 (by omega)]
        exact ih (p + 1) (by omega) (kq g (by simp [fstI, hb]))
  exact key (nS T) 0 (by omega) (hk σ1 he)
def lawful (T : Sg) : Bool := decide (fb T = -4)
theorem s_isLawful {d t : Nat} {σ T : Sg} {K : Kt} (hv : TV σ t T) (hw : WF T) (h1 : lawful T = true → ∀ σ', Ex [t + 8] σ σ' → K 1 σ') (h0 : lawful T = false → ∀ σ', Ex [t + 8] σ σ' → K 0 σ') : wpCall (d + 5) iX3_isLawful [aR t] σ K :=
  bX3_isLawful ⟨hv.1, s_firstBroken hv hw (fun σ1 he => ⟨fun q => ⟨by decide, h1 (by simp [lawful, q]) σ1 he⟩, fun q => ⟨by decide, h0 (by simp [lawful, q]) σ1 he⟩⟩)⟩
