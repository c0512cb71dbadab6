/-! THE MODEL READS -/
def TM (σ : Sg) (b : Nat → Int) (n p : Nat) : Prop := ∃ a : Nat, (a + n ≤ 800 ∧ n ≤ 100 ∧ p ≤ n ∧ BR b n) ∧ σ 85 17 = (a : Nat) ∧ σ 85 18 = (n : Nat) ∧ σ 85 16 = (p : Nat) ∧ ∀ i, i < n → σ 95 (a + i) = b i
theorem TM.le {σ : Sg} {b : Nat → Int} {n p : Nat} (h : TM σ b n p) : n ≤ 100 ∧ p ≤ n ∧ BR b n ∧ σ 85 16 = (p : Nat) := by obtain ⟨a, ⟨h1, h2, h3, h4⟩, -, -, h5, -⟩ := h; exact ⟨h2, h3, h4, h5⟩
theorem TM.fld {σ : Sg} {b : Nat → Int} {n p k : Nat} {v : Int} (h : TM σ b n p) (hk : k < 16 ∨ 18 < k) : TM (up σ 85 k v) b n p := by
  obtain ⟨a, h1, h2, h3, h4, h5⟩ := h
  exact ⟨a, h1, by rw [up_nk (by omega)]; exact h2, by rw [up_nk (by omega)]; exact h3, by rw [up_nk (by omega)]; exact h4, fun i hi => by rw [up_ne (by omega)]; exact h5 i hi⟩
theorem TM.oth {σ : Sg} {b : Nat → Int} {n p c k : Nat} {v : Int} (h : TM σ b n p) (hc : c ≠ 85) (hc2 : c ≠ 95) : TM (up σ c k v) b n p := by
  obtain ⟨a, h1, h2, h3, h4, h5⟩ := h
  exact ⟨a, h1, by rw [up_ne (by omega)]; exact h2, by rw [up_ne (by omega)]; exact h3, by rw [up_ne (by omega)]; exact h4, fun i hi => by rw [up_ne (by omega)]; exact h5 i hi⟩
theorem TM.adv {σ : Sg} {b : Nat → Int} {n p q : Nat} (h : TM σ b n p) (hq : q ≤ n) : TM (up σ 85 16 (q : Nat)) b n q := by
  obtain ⟨a, h1, h2, h3, h4, h5⟩ := h
  exact ⟨a, ⟨h1.1, h1.2.1, hq, h1.2.2.2⟩, by rw [up_nk (by omega)]; exact h2, by rw [up_nk (by omega)]; exact h3, up_self, fun i hi => by rw [up_ne (by omega)]; exact h5 i hi⟩
theorem TM.plus {σ : Sg} {b : Nat → Int} {n p : Nat} (h : TM σ b n p) (hb : byt b n p ≠ -1000) : TM (up σ 85 16 ((p + 1 : Nat) : Int)) b n (p + 1) := h.adv (byt_lt hb)
theorem TM.ex {σ σ' : Sg} {b : Nat → Int} {n p : Nat} {l : List Nat} (h : TM σ b n p) (he : Ex l σ σ') (h1 : 85 ∉ l) (h2 : 95 ∉ l) : TM σ' b n p := by
  obtain ⟨a, b0, b1, b2, b3, b4⟩ := h
  exact ⟨a, b0, by rw [he _ h1]; exact b1, by rw [he _ h1]; exact b2, by rw [he _ h1]; exact b3, fun i hi => by rw [he _ h2]; exact b4 i hi⟩
theorem wr_ap {a p : Nat} (h : a + p ≤ 1000) : wr ((a : Int) + (p : Int)) = ((a + p : Nat) : Int) := by unfold wr; push_cast; omega
theorem m_here {d n p : Nat} {b : Nat → Int} {σ : Sg} {K : Kt} (hx : TM σ b n p) (hk : K (byt b n p) σ) : wpCall (d + 1) iX7_here [aR 85] σ K := by
  obtain ⟨a, ⟨h1, h2, h3, h5⟩, f0, f1, f2, fb⟩ := hx
  have l95 : LEN 95 = 800 := rfl
  refine bX7_here ?_
  rw [f0, f1, f2, wr_ap (by omega), Int.toNat_natCast, l95]
  refine ⟨fun q => ⟨by omega, by omega, kq hk ?_⟩, fun q => kq hk ?_⟩
  · rw [fb p (by omega), byt, if_pos (by omega)]
  · rw [byt, if_neg (by omega)]
theorem m_isIn {d : Nat} {x y z : Int} {σ : Sg} {K : Kt} (h1 : y ≤ x ∧ x ≤ z → K 1 σ) (h0 : ¬ (y ≤ x ∧ x ≤ z) → K 0 σ) : wpCall (d + 1) iX7_isIn [aJ x, aJ y, aJ z] σ K := by
  refine bX7_isIn ⟨fun q => ⟨by decide, h0 ?_⟩, fun q => ⟨fun q2 => ⟨by decide, h0 ?_⟩, fun q2 => ⟨by decide, h1 ?_⟩⟩⟩
  · split at q
    · omega
    · split at q <;> omega
  · split at q2
    · omega
    · split at q2 <;> omega
  · split at q <;> split at q2 <;> (try split at q) <;> (try split at q2) <;> omega
theorem m_takes {d n p : Nat} {x : Int} {b : Nat → Int} {σ : Sg} {K : Kt} (hx : TM σ b n p) (h1 : byt b n p = x → K 1 (up σ 85 16 ((p + 1 : Nat) : Int))) (h0 : byt b n p ≠ x → K 0 σ) : wpCall (d + 2) iX7_takes [aR 85, aI x] σ K := by
  obtain ⟨g1, g2, g3, g4⟩ := hx.le
  refine bX7_takes (m_here hx ⟨fun q => ⟨by decide, ?_⟩, fun q => ⟨by decide, h0 q⟩⟩)
  rw [g4, wr1 (by omega)]
  exact h1 q
theorem m_dig {d n p t : Nat} {b : Nat → Int} {σ : Sg} {K : Kt} {k : Nat → Int → RSt} {Q : RSt → Prop} (hx : TM σ b n p) (ht : σ 85 19 = (t : Nat)) (ht3 : t < 3) (hQ : Q (zD (byt b n) p k)) (hf : Q (bdR p) → K 0 σ) (hk : ∀ q v, Q (k q v) → 0 ≤ v ∧ v ≤ 9 → ∀ σ', Ex [85, 100] σ σ' → TM σ' b n q → σ' 85 19 = ((t + 1 : Nat) : Int) → σ' 100 t = v → (∀ k, k ≠ t → σ' 100 k = σ 100 k) → (∀ k, k ≠ 16 → k ≠ 19 → σ' 85 k = σ 85 k) → K 1 σ') : wpCall (d + 2) iX7_readsDigit [aR 85] σ K := by
  obtain ⟨g1, g2, g3, g4⟩ := hx.le
  have hr := byt_r g3 p
  have l100 : LEN 100 = 3 := rfl
  unfold zD at hQ
  refine bX7_readsDigit (m_here hx (m_isIn (fun q => ?_) (fun q => ?_)))
  · rw [if_pos q] at hQ
    refine ⟨fun z => absurd z (by decide), fun _ => m_here hx ?_⟩
    rw [ht, Int.toNat_natCast, wr48 hr, l100, up_ne (show (85 : Nat) ≠ 100 by omega), ht, wr1 (by omega), up_nk (show (16 : Nat) ≠ 19 by omega), up_ne (show (85 : Nat) ≠ 100 by omega), g4, wr1 (by omega)]
    refine ⟨by omega, by omega, by decide, hk _ _ hQ (by omega) _ (((Ex.rf.up (by simp)).up (by simp)).up (by simp)) (((hx.oth (by omega) (by omega)).fld (by omega)).plus (by omega)) ?_ ?_ (fun j hj => ?_) (fun j h1 h2 => ?_)⟩
    · rw [up_nk (by omega), up_self]
    · rw [up_ne (by omega), up_ne (by omega), up_self]
    · rw [up_ne (by omega), up_ne (by omega), up_nk hj]
    · rw [up_nk h1, up_nk h2, up_ne (by omega)]
  · rw [if_neg q] at hQ
    exact ⟨fun _ => ⟨by decide, hf hQ⟩, fun z => absurd rfl z⟩
theorem crS_in {B : Nat → Int} : ∀ (j q : Nat) (s : Int), (105 - (j : Int) ≤ B q ∧ B q ≤ 104) → crS B j q s = crS B (104 - B q).toNat (q + 1) (bOr s (bShl 1 (B q - 97)))
  | 0, q, s, h => by omega
  | j + 1, q, s, h => by
    rw [crS_s]
    by_cases e : B q = 104 - (j : Int)
    · rw [if_pos e, show (104 - B q).toNat = j by omega, show 7 - (j : Int) = B q - 97 by omega]
    · rw [if_neg e]; exact crS_in j q s (by omega)
theorem crS_out {B : Nat → Int} : ∀ (j q : Nat) (s : Int), ¬ (105 - (j : Int) ≤ B q ∧ B q ≤ 104) → crS B j q s = (q, s)
  | 0, q, s, h => rfl
  | j + 1, q, s, h => by
    rw [crS_s, if_neg (by omega)]; exact crS_out j q s (by omega)
theorem wr98 {j : Nat} (h : j ≤ 8) : wr (wr (97 + (7 - (j : Int))) + 1) = 105 - (j : Int) := by unfold wr; omega
theorem wr97m {x : Int} (h : -1000 ≤ x ∧ x ≤ 127) : wr (x - 97) = x - 97 := wr_id ⟨by omega, by omega⟩
theorem m_readsCrafts {d n p : Nat} {b : Nat → Int} {σ : Sg} {K : Kt} (hx : TM σ b n p) (hk : ∀ σ', Ex [85] σ σ' → TM σ' b n (crS (byt b n) 8 p 0).1 → (∀ k, k ≠ 16 → σ' 85 k = σ 85 k) → K (crS (byt b n) 8 p 0).2 σ') : wpCall (d + 2) iX7_readsCrafts [aR 85] σ K := by
  have hr := byt_r hx.le.2.2.1
  have key : ∀ m j q s σ1, j ≤ m → j ≤ 8 → crS (byt b n) j q s = crS (byt b n) 8 p 0 → Ex [85] σ σ1 → TM σ1 b n q → (∀ k, k ≠ 16 → σ1 85 k = σ 85 k) → wpL (wpCall (d + 1)) mX7_readsCrafts K 4 [aR 85, aI s, aI (7 - (j : Nat))] [] σ1 := by
    intro m
    induction m with
    | zero =>
      intro j q s σ1 hm hj hc he hx hf
      refine bX7_readsCrafts_4 (m_here hx ?_)
      rw [wr98 hj]
      refine m_isIn (fun g => by omega) (fun g => ⟨fun _ => ?_, fun z => absurd rfl z⟩)
      rw [crS_out j q s g] at hc
      rw [← hc] at hk
      exact hk σ1 he hx hf
    | succ m ih =>
      intro j q s σ1 hm hj hc he hx hf
      refine bX7_readsCrafts_4 (m_here hx ?_)
      rw [wr98 hj]
      refine m_isIn (fun g => ⟨fun z => absurd z (by decide), fun _ => m_here hx ?_⟩) (fun g => ⟨fun _ => ?_, fun z => absurd rfl z⟩)
      · rw [crS_in j q s g] at hc
        rw [wr97m (hr q), hx.le.2.2.2, wr1 (by have := hx.le; omega)]
        have hj2 : byt b n q - 97 = 7 - (((104 - byt b n q).toNat : Nat) : Int) := by omega
        have := ih (104 - byt b n q).toNat (q + 1) _ (up σ1 85 16 ((q + 1 : Nat) : Int)) (by omega) (by omega) hc (he.up (by simp)) (hx.plus (by omega)) (fun k hk => by rw [up_nk hk]; exact hf k hk)
        rw [← hj2] at this
        exact this
      · rw [crS_out j q s g] at hc
        rw [← hc] at hk
        exact hk σ1 he hx hf
  exact bX7_readsCrafts (key 8 8 p 0 σ (by omega) (by omega) rfl Ex.rf hx (fun _ _ => rfl))
