/-! THE CLASS READS -/
def BR (b : Nat → Int) (n : Nat) : Prop := ∀ i, i < n → -128 ≤ b i ∧ b i ≤ 127
theorem byt_r {b : Nat → Int} {n : Nat} (h : BR b n) (p : Nat) : -1000 ≤ byt b n p ∧ byt b n p ≤ 127 := by
  unfold byt
  split
  · have := h p (by omega); omega
  · omega
def TX (σ : Sg) (c : Nat) (b : Nat → Int) (n p : Nat) : Prop := (c ≠ 46 ∧ LEN c = 100 ∧ n ≤ 100 ∧ p ≤ n ∧ BR b n) ∧ σ 46 0 = (c : Nat) ∧ σ 46 1 = (n : Nat) ∧ σ 46 2 = (p : Nat) ∧ ∀ i, i < n → σ c i = b i
theorem TX.fld {σ : Sg} {c : Nat} {b : Nat → Int} {n p k : Nat} {v : Int} (h : TX σ c b n p) (hk : 2 < k) : TX (up σ 46 k v) c b n p := by
  obtain ⟨h1, h2, h3, h4, h5⟩ := h
  refine ⟨h1, by rw [up_nk (by omega)]; exact h2, by rw [up_nk (by omega)]; exact h3, by rw [up_nk (by omega)]; exact h4, fun i hi => by rw [up_ne h1.1]; exact h5 i hi⟩
theorem TX.adv {σ : Sg} {c : Nat} {b : Nat → Int} {n p q : Nat} (h : TX σ c b n p) (hq : q ≤ n) : TX (up σ 46 2 (q : Nat)) c b n q := by
  obtain ⟨h1, h2, h3, h4, h5⟩ := h
  refine ⟨⟨h1.1, h1.2.1, h1.2.2.1, hq, h1.2.2.2.2⟩, by rw [up_nk (by omega)]; exact h2, by rw [up_nk (by omega)]; exact h3, up_self, fun i hi => by rw [up_ne h1.1]; exact h5 i hi⟩
theorem s_nextByte {d c n p : Nat} {b : Nat → Int} {σ : Sg} {K : Kt} (hx : TX σ c b n p) (hk : K (byt b n p) σ) : wpCall (d + 1) iX4_nextByte [aR 46] σ K := by
  obtain ⟨⟨h1, h2, h3, h4, h5⟩, f0, f1, f2, fb⟩ := hx
  refine bX4_nextByte ?_
  rw [f0, f1, f2, Int.toNat_natCast, Int.toNat_natCast, h2]
  refine ⟨fun q => ⟨by omega, fun q2 => ⟨by omega, by omega, kq hk ?_⟩, fun q2 => absurd q2 (by omega)⟩, fun q => kq hk ?_⟩
  · rw [fb p (by omega), byt, if_pos (by omega)]
  · rw [byt, if_neg (by omega)]
theorem s_skip {d c n p : Nat} {x : Int} {b : Nat → Int} {σ : Sg} {K : Kt} (hx : TX σ c b n p) (h1 : byt b n p = x → K 1 (up σ 46 2 ((p + 1 : Nat) : Int))) (h0 : byt b n p ≠ x → K 0 σ) : wpCall (d + 2) iX4_skip [aR 46, aI x] σ K := by
  refine bX4_skip (s_nextByte hx ⟨fun q => ⟨by decide, ?_⟩, fun q => ⟨by decide, h0 q⟩⟩)
  have h4 := hx.1.2.2.2.1
  have h3 := hx.1.2.2.1
  rw [hx.2.2.2.1, wr1 (by omega)]
  exact h1 q
theorem wr48 {x : Int} (h : -1000 ≤ x ∧ x ≤ 127) : wr (x - 48) = x - 48 := wr_id ⟨by omega, by omega⟩
theorem s_readDigit {d c n p : Nat} {b : Nat → Int} {σ : Sg} {K : Kt} (hx : TX σ c b n p) (h1 : isD (byt b n p) → K (byt b n p - 48) (up σ 46 2 ((p + 1 : Nat) : Int))) (h0 : ¬ isD (byt b n p) → K (-4) σ) : wpCall (d + 2) iX4_readDigit [aR 46] σ K := by
  have hr := byt_r hx.1.2.2.2.2 p
  have h4 := hx.1.2.2.2.1
  have h3 := hx.1.2.2.1
  refine bX4_readDigit (s_nextByte hx ?_)
  rw [wr48 hr, hx.2.2.2.1, wr1 (by omega)]
  exact ⟨fun q => h0 (by omega), fun q => ⟨fun q2 => h0 (by omega), fun q2 => h1 (by omega)⟩⟩
def FR (l : List Nat) (σ σ' : Sg) : Prop := ∀ k, k ∉ l → σ' 46 k = σ 46 k
theorem FR.rf {l : List Nat} {σ : Sg} : FR l σ σ := fun _ _ => rfl
theorem FR.fld {l : List Nat} {σ σ1 : Sg} {k : Nat} {v : Int} (h : FR l σ σ1) (hk : k ∈ l) : FR l σ (up σ1 46 k v) := fun j hj => by
  rw [up_nk (fun q => hj (by rw [q]; exact hk))]; exact h j hj
theorem FR.tr {l l1 l2 : List Nat} {σ σ1 σ2 : Sg} (h1 : FR l1 σ σ1) (h2 : FR l2 σ1 σ2) (i1 : ∀ a ∈ l1, a ∈ l) (i2 : ∀ a ∈ l2, a ∈ l) : FR l σ σ2 := fun a ha => (h2 a (fun q => ha (i2 a q))).trans (h1 a (fun q => ha (i1 a q)))
theorem TX.plus {σ : Sg} {c : Nat} {b : Nat → Int} {n p : Nat} (h : TX σ c b n p) (hb : byt b n p ≠ -1000) : TX (up σ 46 2 ((p + 1 : Nat) : Int)) c b n (p + 1) := h.adv (byt_lt hb)
theorem s_readNumber {d c n p : Nat} {b : Nat → Int} {σ : Sg} {K : Kt} (hx : TX σ c b n p) (h1 : isD (byt b n p) → K 1 (up (up σ 46 2 ((p + 1 : Nat) : Int)) 46 6 (byt b n p - 48))) (h0 : ¬ isD (byt b n p) → K 0 (up σ 46 6 (-4))) : wpCall (d + 3) iX4_readNumber [aR 46] σ K := by
  refine bX4_readNumber (s_readDigit hx (fun q => ?_) (fun q => ?_))
  · rw [up_self]; exact ⟨fun z => by omega, fun _ => ⟨by decide, h1 q⟩⟩
  · rw [up_self]; exact ⟨fun _ => ⟨by decide, h0 q⟩, fun z => absurd (by decide) z⟩
theorem s_readTwoDigits {d c n p : Nat} {b : Nat → Int} {σ : Sg} {K : Kt} {k : Nat → Int → Int → RSt} {Q : RSt → Prop} (hx : TX σ c b n p) (hQ : Q (zD (byt b n) p fun p a => zD (byt b n) p fun p v => k p a v)) (hf : ∀ q, Q (bdR q) → ∀ σ', Ex [46] σ σ' → TX σ' c b n q → K 0 σ') (hk : ∀ q a v, Q (k q a v) → (0 ≤ a ∧ a ≤ 9) ∧ (0 ≤ v ∧ v ≤ 9) → ∀ σ', Ex [46] σ σ' → TX σ' c b n q → FR [2, 4, 5] σ σ' → σ' 46 4 = a → σ' 46 5 = v → K 1 σ') : wpCall (d + 3) iX4_readTwoDigits [aR 46] σ K := by
  unfold zD at hQ
  refine bX4_readTwoDigits (s_readDigit hx (fun q => ?_) (fun q => ?_))
  · rw [if_pos q] at hQ
    dsimp only at hQ
    have hx1 := (hx.plus (by omega)).fld (k := 4) (v := byt b n p - 48) (by omega)
    rw [up_self]
    refine ⟨fun z => by omega, fun _ => ?_⟩
    refine s_readDigit hx1 (fun q2 => ?_) (fun q2 => ?_)
    · rw [if_pos q2] at hQ
      rw [up_self]
      refine ⟨fun z => by omega, fun _ => ⟨by decide, hk _ _ _ hQ (by omega) _ ((((Ex.rf.up (by simp)).up (by simp)).up (by simp)).up (by simp)) ((hx1.plus (by omega)).fld (by omega)) ((((FR.rf.fld (by simp)).fld (by simp)).fld (by simp)).fld (by simp)) ?_ up_self⟩⟩
      rw [up_nk (by omega), up_nk (by omega), up_self]
    · rw [if_neg q2] at hQ
      rw [up_self]
      exact ⟨fun _ => ⟨by decide, hf _ hQ _ (((Ex.rf.up (by simp)).up (by simp)).up (by simp)) (hx1.fld (by omega))⟩, fun z => absurd (by decide) z⟩
  · rw [if_neg q] at hQ
    rw [up_self]
    exact ⟨fun _ => ⟨by decide, hf _ hQ _ (Ex.rf.up (by simp)) (hx.fld (by omega))⟩, fun z => absurd (by decide) z⟩
theorem wr10 {t x : Int} (h : 0 ≤ t ∧ t ≤ 9) (hx : 0 ≤ x ∧ x ≤ 9) : wr (x + wr (10 * t)) = 10 * t + x := by unfold wr; omega
theorem s_readWish {d c n p : Nat} {b : Nat → Int} {σ : Sg} {K : Kt} {k : Nat → Int → RSt} {Q : RSt → Prop} (hx : TX σ c b n p) (hQ : Q (zN (byt b n) p k)) (hf : ∀ q, Q (bdR q) → ∀ σ', Ex [46] σ σ' → TX σ' c b n q → K 0 σ') (hk : ∀ q v, Q (k q v) → ∀ σ', Ex [46] σ σ' → TX σ' c b n q → FR [2, 6] σ σ' → σ' 46 6 = v → K 1 σ') : wpCall (d + 4) iX4_readWish [aR 46] σ K := by
  unfold zN zD at hQ
  refine bX4_readWish (s_readNumber hx (fun q => ?_) (fun q => ?_))
  · rw [if_pos q] at hQ
    dsimp only at hQ
    have hx1 := (hx.plus (by omega)).fld (k := 6) (v := byt b n p - 48) (by omega)
    have ex1 : Ex [46] σ (up (up σ 46 2 ((p + 1 : Nat) : Int)) 46 6 (byt b n p - 48)) := (Ex.rf.up (by simp)).up (by simp)
    have fr1 : FR [2, 6] σ (up (up σ 46 2 ((p + 1 : Nat) : Int)) 46 6 (byt b n p - 48)) := (FR.rf.fld (by simp)).fld (by simp)
    rw [up_self]
    refine ⟨fun z => absurd z (by decide), fun _ => ⟨fun q1 => ?_, fun q1 => ⟨by decide, ?_⟩⟩⟩
    · refine s_readNumber hx1 (fun q2 => ⟨fun z => absurd z (by decide), fun _ => ⟨by decide, ?_⟩⟩) (fun q2 => ⟨fun _ => ⟨by decide, ?_⟩, fun z => absurd rfl z⟩)
      · rw [if_pos ⟨q1, q2⟩] at hQ
        rw [up_self, wr10 (by omega) (by omega)]
        exact hk _ _ hQ _ (((ex1.up (by simp)).up (by simp)).up (by simp)) (((hx1.plus (by omega)).fld (by omega)).fld (by omega)) (((fr1.fld (by simp)).fld (by simp)).fld (by simp)) up_self
      · rw [if_neg (fun z => q2 z.2)] at hQ
        exact hk _ _ hQ _ ((ex1.up (by simp)).up (by simp)) ((hx1.fld (by omega)).fld (by omega)) ((fr1.fld (by simp)).fld (by simp)) up_self
    · rw [if_neg (fun z => q1 z.1)] at hQ
      exact hk _ _ hQ _ (ex1.up (by simp)) (hx1.fld (by omega)) (fr1.fld (by simp)) up_self
  · rw [if_neg q] at hQ
    exact ⟨fun _ => ⟨by decide, hf _ hQ _ (Ex.rf.up (by simp)) (hx.fld (by omega))⟩, fun z => absurd rfl z⟩
theorem pop0 {x : Int} (h : U8 x) : 1 ≤ pop x ↔ x ≠ 0 := by
  obtain ⟨n, hn, rfl⟩ := U8_nat h
  have key : ∀ n, n < 256 → (1 ≤ pop (Int.ofNat n) ↔ Int.ofNat n ≠ 0) := by decide +kernel
  exact key n hn
theorem crS_s (B : Nat → Int) (n p : Nat) (s : Int) : crS B (n + 1) p s = if B p = 104 - (n : Int) then crS B n (p + 1) (bOr s (bShl 1 (7 - (n : Int)))) else crS B n p s := rfl
theorem crS_0 (B : Nat → Int) (p : Nat) (s : Int) : crS B 0 p s = (p, s) := rfl
theorem wr97 {p : Nat} (h : p < 9) : wr (97 + (p : Int)) = 97 + (p : Int) := by unfold wr; omega
theorem s_readCrafts {d c n p : Nat} {m : Int} {b : Nat → Int} {σ : Sg} {K : Kt} (hx : TX σ c b n p) (hk : ∀ σ', Ex [46] σ σ' → TX σ' c b n (crS (byt b n) 8 p 0).1 → FR [2, 7] σ σ' → σ' 46 7 = (crS (byt b n) 8 p 0).2 → K (b2i (decide (m ≤ pop (crS (byt b n) 8 p 0).2))) σ') : wpCall (d + 3) iX4_readCrafts [aR 46, aI m] σ K := by
  refine bX4_readCrafts ?_
  have hU := crS_r (b := b) (n0 := n) 8 p 0 (by omega) U8_0 hx.1.2.2.2.1
  have key : ∀ j i q s σ1, i + j = 8 → Ex [46] σ σ1 → TX σ1 c b n q → FR [2, 7] σ σ1 → σ1 46 7 = s → crS (byt b n) j q s = crS (byt b n) 8 p 0 → wpL (wpCall (d + 2)) mX4_readCrafts K 7 [aR 46, aI m, aI (i : Nat)] [] σ1 := by
    intro j
    induction j with
    | zero =>
      intro i q s σ1 hi he h1 hf hs hc
      refine bX4_readCrafts_7 ⟨fun z => by omega, fun _ => ?_⟩
      rw [← hc] at hk hU
      rw [hs]
      refine s_bitCount hU.2 ⟨fun z => ⟨by decide, ?_⟩, fun z => ⟨by decide, ?_⟩⟩
      · have := hk σ1 he h1 hf hs
        rw [decide_eq_false (by rw [crS_0]; dsimp only; omega)] at this
        exact this
      · have := hk σ1 he h1 hf hs
        rw [decide_eq_true (by rw [crS_0]; dsimp only; omega)] at this
        exact this
    | succ j ih =>
      intro i q s σ1 hi he h1 hf hs hc
      refine bX4_readCrafts_7 ⟨fun z => ?_, fun z => by omega⟩
      rw [wr97 (by omega), wr1 (by omega)]
      rw [crS_s] at hc
      refine s_skip h1 (fun g => ⟨fun z => absurd z (by decide), fun _ => ?_⟩) (fun g => ⟨fun _ => ?_, fun z => absurd rfl z⟩)
      · rw [if_pos (by omega)] at hc
        refine ih (i + 1) (q + 1) _ _ (by omega) ((he.up (by simp)).up (by simp)) ((h1.plus (by omega)).fld (by omega)) ((hf.fld (by simp)).fld (by simp)) up_self ?_
        rw [up_nk (by omega), hs, ← hc]
        rw [show (7 : Int) - (j : Int) = (i : Int) by omega]
      · rw [if_neg (by omega)] at hc
        exact ih (i + 1) q s σ1 (by omega) he h1 hf hs hc
  exact key 8 0 p 0 _ (by omega) (Ex.rf.up (by simp)) (hx.fld (by omega)) (FR.rf.fld (by simp)) up_self rfl
theorem b2i_ne {b : Bool} : ¬ b2i b = 0 ↔ b = true := by cases b <;> decide
theorem s_readPerson {d c n p : Nat} {b : Nat → Int} {σ : Sg} {K : Kt} {k : Nat → Int → Int → Int → RSt} {Q : RSt → Prop} (hx : TX σ c b n p) (hQ : Q (zC1 (byt b n) p fun p s => zT (byt b n) p fun p a => zX (byt b n) p fun p h => k p s a h)) (hf : ∀ q, Q (bdR q) → ∀ σ', Ex [46] σ σ' → TX σ' c b n q → K 0 σ') (hk : ∀ q s a h, Q (k q s a h) → ∀ σ', Ex [46] σ σ' → TX σ' c b n q → FR [2, 4, 7, 8] σ σ' → σ' 46 7 = s → σ' 46 4 = a → σ' 46 8 = h → K 1 σ') : wpCall (d + 4) iX4_readPerson [aR 46] σ K := by
  have hU := crS_r (b := b) (n0 := n) 8 p 0 (by omega) U8_0 hx.1.2.2.2.1
  unfold zC1 at hQ
  refine bX4_readPerson (s_readCrafts hx (fun σ1 he1 hx1 hf1 hs1 => ?_))
  generalize hR : crS (byt b n) 8 p 0 = R at hQ hx1 hs1 hU
  have h0 := pop0 hU.2
  refine ⟨fun z => ?_, fun z => ?_⟩
  · have e : ¬ 1 ≤ pop R.2 := fun h => by rw [decide_eq_true h] at z; exact absurd z (by decide)
    rw [if_pos (Decidable.byContradiction fun g => e (h0.2 g))] at hQ
    exact ⟨by decide, hf _ hQ _ he1 hx1⟩
  · have e : 1 ≤ pop R.2 := of_decide_eq_true (b2i_ne.1 z)
    rw [if_neg (h0.1 e)] at hQ
    dsimp only at hQ
    clear z e h0
    have hx2 : TX (up (up σ1 46 4 (-4)) 46 8 0) c b n R.1 := (hx1.fld (by omega)).fld (by omega)
    have he2 : Ex [46] σ (up (up σ1 46 4 (-4)) 46 8 0) := (he1.up (by simp)).up (by simp)
    have fr2 : FR [2, 4, 7, 8] σ (up (up σ1 46 4 (-4)) 46 8 0) := ((hf1.tr (l := [2, 4, 7, 8]) FR.rf (by simp) (fun _ h => h)).fld (by simp)).fld (by simp)
    have tail : ∀ σ3 q a, Ex [46] σ σ3 → TX σ3 c b n q → FR [2, 4, 7, 8] σ σ3 → σ3 46 4 = a → σ3 46 8 = 0 → Q (zX (byt b n) q fun p h => k p R.2 a h) → wpCall (d + 3) iX4_skip [aR 46, aI 120] σ3 (fun r3 s3 => (r3 = 0 → ((1 : Int) = 0 ∨ (1 : Int) = 1) ∧ K 1 (up s3 46 7 (σ1 46 7))) ∧ (¬ r3 = 0 → wpCall (d + 3) iX4_readCrafts [aR 46, aI 1] s3 (fun r4 s4 => (r4 = 0 → ((0 : Int) = 0 ∨ (0 : Int) = 1) ∧ K 0 s4) ∧ (¬ r4 = 0 → ((1 : Int) = 0 ∨ (1 : Int) = 1) ∧ K 1 (up (up s4 46 8 (s4 46 7)) 46 7 (σ1 46 7)))))) := by
      intro σ3 q a he3 hx3 fr3 g4 g8 hQ3
      unfold zX at hQ3
      refine s_skip (d := d + 1) hx3 (fun g => ⟨fun z => absurd z (by decide), fun _ => ?_⟩) (fun g => ⟨fun _ => ⟨by decide, ?_⟩, fun z => absurd rfl z⟩)
      · rw [if_pos g] at hQ3
        have hx4 := hx3.plus (by omega)
        have hU4 := crS_r (b := b) (n0 := n) 8 (q + 1) 0 (by omega) U8_0 hx4.1.2.2.2.1
        unfold zC1 at hQ3
        refine s_readCrafts (d := d) hx4 (fun σ4 he4 hx4 hf4 hs4 => ?_)
        generalize hR : crS (byt b n) 8 (q + 1) 0 = R4 at hQ3 hx4 hs4 hU4
        have h0 := pop0 hU4.2
        refine ⟨fun z => ?_, fun z => ?_⟩
        · have e : ¬ 1 ≤ pop R4.2 := fun h => by rw [decide_eq_true h] at z; exact absurd z (by decide)
          rw [if_pos (Decidable.byContradiction fun g => e (h0.2 g))] at hQ3
          exact ⟨by decide, hf _ hQ3 _ ((he3.up (by simp)).tr he4 (fun _ h => h) (fun _ h => h)) hx4⟩
        · have e : 1 ≤ pop R4.2 := of_decide_eq_true (b2i_ne.1 z)
          rw [if_neg (h0.1 e)] at hQ3
          refine ⟨by decide, hk _ _ _ _ hQ3 _ ((((he3.up (by simp)).tr he4 (fun _ h => h) (fun _ h => h)).up (by simp)).up (by simp)) ((hx4.fld (by omega)).fld (by omega)) ((((fr3.fld (by simp)).tr hf4 (fun _ h => h) (by simp)).fld (by simp)).fld (by simp)) ?_ ?_ ?_⟩
          · rw [up_self, hs1]
          · rw [up_nk (by omega), up_nk (by omega), hf4 4 (by simp), up_nk (by omega)]; exact g4
          · rw [up_nk (by omega), up_self, hs4]
      · rw [if_neg g] at hQ3
        refine hk _ _ _ _ hQ3 _ (he3.up (by simp)) (hx3.fld (by omega)) (fr3.fld (by simp)) ?_ ?_ ?_
        · rw [up_self, hs1]
        · rw [up_nk (by omega)]; exact g4
        · rw [up_nk (by omega)]; exact g8
    unfold zT zD at hQ
    refine s_skip (d := d + 1) hx2 (fun g => ⟨fun z => absurd z (by decide), fun _ => ?_⟩) (fun g => ⟨fun _ => ?_, fun z => absurd rfl z⟩)
    · rw [if_pos g] at hQ
      have hx3 := hx2.plus (by omega)
      refine s_readDigit (d := d + 1) hx3 (fun q => ?_) (fun q => ?_)
      · rw [if_pos q] at hQ
        rw [up_self]
        refine ⟨fun z => by omega, fun _ => ?_⟩
        refine tail _ _ _ (((he2.up (by simp)).up (by simp)).up (by simp)) ((hx3.plus (by omega)).fld (by omega)) (((fr2.fld (by simp)).fld (by simp)).fld (by simp)) up_self ?_ hQ
        rw [up_nk (by omega), up_nk (by omega), up_nk (by omega), up_self]
      · rw [if_neg q] at hQ
        rw [up_self]
        exact ⟨fun _ => ⟨by decide, hf _ hQ _ ((he2.up (by simp)).up (by simp)) (hx3.fld (by omega))⟩, fun z => absurd (by decide) z⟩
    · rw [if_neg g] at hQ
      exact tail _ _ _ he2 hx2 fr2 (by rw [up_nk (by omega), up_self]) up_self hQ
def FLD (σ : Sg) (k : Int) (R : RSt) : Prop := σ 46 3 = k ∧ σ 46 4 = R.a ∧ (k = 121 ∨ k = 119 ∨ k = 108 ∨ k = 105 → σ 46 5 = R.b) ∧ (k = 121 ∨ k = 119 → σ 46 6 = R.c) ∧ (k = 112 ∨ k = 108 → σ 46 7 = R.set) ∧ (k = 112 → σ 46 8 = R.hid)
def RDq (σ : Sg) (c : Nat) (b : Nat → Int) (n : Nat) (k : Int) (K : Kt) (R : RSt) : Prop := ∀ σ', Ex [46] σ σ' → TX σ' c b n R.p → (R.ok = true → FLD σ' k R) → K (b2i R.ok) σ'
theorem RDq_bd {σ σ' : Sg} {c : Nat} {b : Nat → Int} {n q : Nat} {k : Int} {K : Kt} (h : RDq σ c b n k K (bdR q)) (he : Ex [46] σ σ') (hx : TX σ' c b n q) : K 0 σ' := h σ' he hx (fun z => absurd (show false = true from z) (by decide))
theorem RDq_ok {σ σ' : Sg} {c : Nat} {b : Nat → Int} {n q : Nat} {k a v w s g : Int} {K : Kt} (h : RDq σ c b n k K (true, q, a, v, w, s, g)) (he : Ex [46] σ σ') (hx : TX σ' c b n q) (hf : FLD σ' k (true, q, a, v, w, s, g)) : K 1 σ' := h σ' he hx (fun _ => hf)
/-- the last byte of a statement -/
theorem s_end {d c n p : Nat} {b : Nat → Int} {σ σ1 : Sg} {k a v w s g : Int} {K : Kt} (hx : TX σ1 c b n p) (he : Ex [46] σ σ1) (hQ : RDq σ c b n k K (zS (byt b n) 59 p fun p => (true, p, a, v, w, s, g))) (hf : FLD (up σ1 46 2 ((p + 1 : Nat) : Int)) k (true, p + 1, a, v, w, s, g)) : wpCall (d + 2) iX4_skip [aR 46, aI 59] σ1 (fun r3 s3 => (r3 = 0 → ((0 : Int) = 0 ∨ (0 : Int) = 1) ∧ K 0 s3) ∧ (¬ r3 = 0 → ((1 : Int) = 0 ∨ (1 : Int) = 1) ∧ K 1 s3)) := by
  unfold zS at hQ
  refine s_skip hx (fun q => ⟨fun z => absurd z (by decide), fun _ => ⟨by decide, ?_⟩⟩) (fun q => ⟨fun _ => ⟨by decide, ?_⟩, fun z => absurd rfl z⟩)
  · rw [if_pos q] at hQ
    exact RDq_ok hQ (he.up (by simp)) (hx.plus (by omega)) hf
  · rw [if_neg q] at hQ
    exact RDq_bd hQ he hx
theorem s_readStatement {d c n p : Nat} {b : Nat → Int} {σ : Sg} {K : Kt} (hx : TX σ c b n p) (hQ : RDq σ c b n (byt b n p) K (stm (byt b n) p)) : wpCall (d + 5) iX4_readStatement [aR 46] σ K := by
  refine bX4_readStatement (s_nextByte hx ?_)
  have hx0 := hx.fld (k := 3) (v := byt b n p) (by omega)
  have h4 := hx.1.2.2.2.1
  have h3 := hx.1.2.2.1
  have e0 : Ex [46] σ (up σ 46 3 (byt b n p)) := Ex.rf.up (by simp)
  rw [up_self, up_nk (show (2 : Nat) ≠ 3 by omega), hx.2.2.2.1, wr1 (by omega)]
  have bad : (byt b n p ≠ 115 ∧ byt b n p ≠ 121 ∧ byt b n p ≠ 112 ∧ byt b n p ≠ 119 ∧ byt b n p ≠ 108 ∧ byt b n p ≠ 105) → K 0 (up σ 46 3 (byt b n p)) := by
    intro h
    unfold stm at hQ
    rw [if_neg h.1, if_neg h.2.1, if_neg h.2.2.1, if_neg h.2.2.2.1, if_neg h.2.2.2.2.1, if_neg h.2.2.2.2.2] at hQ
    exact RDq_bd hQ e0 hx0
  have hx1 : byt b n p ≠ -1000 → TX (up (up σ 46 3 (byt b n p)) 46 2 ((p + 1 : Nat) : Int)) c b n (p + 1) := fun h => hx0.plus h
  have e1 : Ex [46] σ (up (up σ 46 3 (byt b n p)) 46 2 ((p + 1 : Nat) : Int)) := e0.up (by simp)
  have g3 : up (up σ 46 3 (byt b n p)) 46 2 ((p + 1 : Nat) : Int) 46 3 = byt b n p := by rw [up_nk (by omega), up_self]
  refine ⟨fun q => ?_, fun q => ⟨by decide, bad (by omega)⟩, fun q => ⟨by decide, bad (by omega)⟩, fun q => ?_, fun q => ⟨by decide, bad (by omega)⟩, fun q => ⟨by decide, bad (by omega)⟩, fun q => ⟨by decide, bad (by omega)⟩, fun q => ?_, fun q => ⟨by decide, bad (by omega)⟩, fun q => ⟨by decide, bad (by omega)⟩, fun q => ?_, fun q => ⟨by decide, bad (by omega)⟩, fun q => ⟨by decide, bad (by omega)⟩, fun q => ⟨by decide, bad (by omega)⟩, fun q => ?_, fun q => ⟨by decide, bad (by omega)⟩, fun q => ?_, fun q => ⟨by decide, bad (by omega)⟩⟩
  · unfold stm at hQ
    rw [if_neg (by omega), if_neg (by omega), if_neg (by omega), if_neg (by omega), if_neg (by omega), if_pos q] at hQ
    refine s_readTwoDigits (d := d + 1) (hx1 (by omega)) hQ (fun q hq σ' he' hx' => ⟨fun _ => ⟨by decide, RDq_bd hq (e1.tr he' (fun _ h => h) (fun _ h => h)) hx'⟩, fun z => absurd rfl z⟩) (fun q1 a v hq har σ' he' hx' hf' ha hv => ⟨fun z => absurd z (by decide), fun _ => ?_⟩)
    refine s_end (d := d + 2) hx' (e1.tr he' (fun _ h => h) (fun _ h => h)) hq ⟨?_, ?_, fun _ => ?_, fun h => by omega, fun h => by omega, fun h => by omega⟩
    · rw [up_nk (by omega), hf' 3 (by simp)]; exact g3
    · rw [up_nk (by omega)]; exact ha
    · rw [up_nk (by omega)]; exact hv
  · unfold stm at hQ
    rw [if_neg (by omega), if_neg (by omega), if_neg (by omega), if_neg (by omega), if_pos q] at hQ
    refine s_readTwoDigits (d := d + 1) (hx1 (by omega)) hQ (fun q hq σ' he' hx' => ⟨fun _ => ⟨by decide, RDq_bd hq (e1.tr he' (fun _ h => h) (fun _ h => h)) hx'⟩, fun z => absurd rfl z⟩) (fun q1 a v hq har σ' he' hx' hf' ha hv => ⟨fun z => absurd z (by decide), fun _ => ?_⟩)
    have e2 := e1.tr he' (fun _ h => h) (fun _ h => h)
    refine s_readCrafts (d := d + 1) hx' (fun σ2 he2 hx2 hf2 hs2 => ⟨fun z => ?_, fun _ => ?_⟩)
    · rw [decide_eq_true (pop_r _).1] at z
      exact absurd z (by decide)
    · refine s_end (d := d + 2) hx2 (e2.tr he2 (fun _ h => h) (fun _ h => h)) hq ⟨?_, ?_, fun _ => ?_, fun h => by omega, fun h => ?_, fun h => by omega⟩
      · rw [up_nk (by omega), hf2 3 (by simp), hf' 3 (by simp)]; exact g3
      · rw [up_nk (by omega), hf2 4 (by simp)]; exact ha
      · rw [up_nk (by omega), hf2 5 (by simp)]; exact hv
      · rw [up_nk (by omega)]; exact hs2
  · unfold stm at hQ
    rw [if_neg (by omega), if_neg (by omega), if_pos q] at hQ
    refine s_readPerson (d := d) (hx1 (by omega)) hQ (fun q hq σ' he' hx' => ⟨fun _ => ⟨by decide, RDq_bd hq (e1.tr he' (fun _ h => h) (fun _ h => h)) hx'⟩, fun z => absurd rfl z⟩) (fun q1 s a h hq σ' he' hx' hf' hs ha hh => ⟨fun z => absurd z (by decide), fun _ => ?_⟩)
    refine s_end (d := d + 2) hx' (e1.tr he' (fun _ h => h) (fun _ h => h)) hq ⟨?_, ?_, fun h => by omega, fun h => by omega, fun h => ?_, fun h => ?_⟩
    · rw [up_nk (by omega), hf' 3 (by simp)]; exact g3
    · rw [up_nk (by omega)]; exact ha
    · rw [up_nk (by omega)]; exact hs
    · rw [up_nk (by omega)]; exact hh
  · unfold stm at hQ
    rw [if_pos q] at hQ
    unfold zD at hQ
    refine s_readDigit (d := d + 2) (hx1 (by omega)) (fun g => ?_) (fun g => ?_)
    · rw [if_pos g] at hQ
      rw [up_self]
      refine ⟨fun z => by omega, fun _ => ?_⟩
      refine s_end (d := d + 2) (((hx1 (by omega)).plus (by omega)).fld (by omega)) ((e1.up (by simp)).up (by simp)) hQ ⟨?_, ?_, fun h => by omega, fun h => by omega, fun h => by omega, fun h => by omega⟩
      · rw [up_nk (by omega), up_nk (by omega), up_nk (by omega)]; exact g3
      · rw [up_nk (by omega), up_self]
    · rw [if_neg g] at hQ
      rw [up_self]
      exact ⟨fun _ => ⟨by decide, RDq_bd hQ (e1.up (by simp)) ((hx1 (by omega)).fld (by omega))⟩, fun z => absurd (by decide) z⟩
  · unfold stm at hQ
    rw [if_neg (by omega), if_neg (by omega), if_neg (by omega), if_pos q] at hQ
    refine s_readTwoDigits (d := d + 1) (hx1 (by omega)) hQ (fun q hq σ' he' hx' => ⟨fun _ => ⟨by decide, RDq_bd hq (e1.tr he' (fun _ h => h) (fun _ h => h)) hx'⟩, fun z => absurd rfl z⟩) (fun q1 a v hq har σ' he' hx' hf' ha hv => ⟨fun z => absurd z (by decide), fun _ => ?_⟩)
    have e2 := e1.tr he' (fun _ h => h) (fun _ h => h)
    unfold zS at hq
    refine s_skip (d := d + 2) hx' (fun g => ⟨fun z => absurd z (by decide), fun _ => ?_⟩) (fun g => ⟨fun _ => ⟨by decide, ?_⟩, fun z => absurd rfl z⟩)
    · rw [if_pos g] at hq
      dsimp only at hq
      refine s_readWish (d := d) (Q := RDq σ c b n (byt b n p) K) (k := fun p w => zS (byt b n) 59 p fun p => (true, p, a, v, w, 0, 0)) (hx'.plus (by omega)) hq (fun q hq σ' he' hx' => ⟨fun _ => ⟨by decide, RDq_bd hq ((e2.up (by simp)).tr he' (fun _ h => h) (fun _ h => h)) hx'⟩, fun z => absurd rfl z⟩) (fun q2 w hq σ2 he2 hx2 hf2 hw2 => ⟨fun z => absurd z (by decide), fun _ => ?_⟩)
      refine s_end (d := d + 2) hx2 ((e2.up (by simp)).tr he2 (fun _ h => h) (fun _ h => h)) hq ⟨?_, ?_, fun _ => ?_, fun h => ?_, fun h => by omega, fun h => by omega⟩
      · rw [up_nk (by omega), hf2 3 (by simp), up_nk (by omega), hf' 3 (by simp)]; exact g3
      · rw [up_nk (by omega), hf2 4 (by simp), up_nk (by omega)]; exact ha
      · rw [up_nk (by omega), hf2 5 (by simp), up_nk (by omega)]; exact hv
      · rw [up_nk (by omega)]; exact hw2
    · rw [if_neg g] at hq
      exact RDq_bd hq e2 hx'
  · unfold stm at hQ
    rw [if_neg (by omega), if_pos q] at hQ
    refine s_readTwoDigits (d := d + 1) (hx1 (by omega)) (k := fun p a v => zD (byt b n) p fun p w => zS (byt b n) 59 p fun p => (true, p, a, v, w, 0, 0)) hQ (fun q hq σ' he' hx' => ⟨fun _ => ⟨by decide, RDq_bd hq (e1.tr he' (fun _ h => h) (fun _ h => h)) hx'⟩, fun z => absurd rfl z⟩) (fun q1 a v hq har σ' he' hx' hf' ha hv => ⟨fun z => absurd z (by decide), fun _ => ?_⟩)
    have e2 := e1.tr he' (fun _ h => h) (fun _ h => h)
    unfold zD at hq
    refine s_readNumber (d := d + 1) hx' (fun g => ⟨fun z => absurd z (by decide), fun _ => ?_⟩) (fun g => ⟨fun _ => ⟨by decide, ?_⟩, fun z => absurd rfl z⟩)
    · rw [if_pos g] at hq
      dsimp only at hq
      refine s_end (d := d + 2) ((hx'.plus (by omega)).fld (by omega)) ((e2.up (by simp)).up (by simp)) hq ⟨?_, ?_, fun _ => ?_, fun h => ?_, fun h => by omega, fun h => by omega⟩
      · rw [up_nk (by omega), up_nk (by omega), up_nk (by omega), hf' 3 (by simp)]; exact g3
      · rw [up_nk (by omega), up_nk (by omega), up_nk (by omega)]; exact ha
      · rw [up_nk (by omega), up_nk (by omega), up_nk (by omega)]; exact hv
      · rw [up_nk (by omega), up_self]
    · rw [if_neg g] at hq
      exact RDq_bd hq (e2.up (by simp)) (hx'.fld (by omega))
