/-! NEW STREETS, NEW PEOPLE -/
def tStr (T : Sg) (h : Int) : Sg := fun i k =>
  if i = 0 ∧ k = 0 then T 0 0 + 1
  else if i = 1 ∧ k = nS T then h
  else if i = 2 ∧ (k / 5 = nS T ∨ k % 5 = nS T) then (if k / 5 = k % 5 then 0 else 5)
  else if i = 6 ∧ k % 5 = nS T then 10
  else T i k
def tPer (T : Sg) (c tie hid : Int) : Sg := fun i k =>
  if i = 0 ∧ k = 1 then T 0 1 + 1
  else if i = 3 ∧ k = nP T then c
  else if i = 4 ∧ k = nP T then hid
  else if i = 5 ∧ k = nP T then tie
  else if i = 7 ∧ k = nP T then 9
  else if i = 6 ∧ k / 5 = nP T then 10
  else T i k
def tWay (T : Sg) (a b : Nat) (v : Int) : Sg := up (up T 2 (5 * a + b) v) 2 (5 * b + a) v
def tWish (T : Sg) (p s : Nat) (v : Int) : Sg := up T 6 (5 * p + s) v
def tLaw (T : Sg) (a b c : Int) : Sg := up (up (up T 0 2 a) 0 3 b) 0 4 c
def tLive (T : Sg) (p : Nat) (s : Int) : Sg := up T 7 p s
def CX (σ : Sg) (t : Nat) : Prop := ∀ a : Nat, a < 5 → σ (t + 2) (6 * a) = 0
theorem CX.ex {σ σ' : Sg} {t : Nat} {l : List Nat} (h : CX σ t) (he : Ex l σ σ') (hl : t + 2 ∉ l) : CX σ' t := fun a ha => by rw [he _ hl]; exact h a ha
theorem dv5 {a b : Nat} (hb : b < 5) : (5 * a + b) / 5 = a ∧ (5 * a + b) % 5 = b := by omega
theorem tStr0 (T : Sg) (h : Int) : tStr T h 0 0 = T 0 0 + 1 := rfl
theorem tStr01 (T : Sg) (h : Int) : tStr T h 0 1 = T 0 1 := rfl
theorem tStr02 (T : Sg) (h : Int) : tStr T h 0 2 = T 0 2 := rfl
theorem tStr03 (T : Sg) (h : Int) : tStr T h 0 3 = T 0 3 := rfl
theorem tStr04 (T : Sg) (h : Int) : tStr T h 0 4 = T 0 4 := rfl
theorem tStr1 (T : Sg) (h : Int) (s : Nat) : tStr T h 1 s = if s = nS T then h else T 1 s := by simp [tStr]
theorem tStr2 (T : Sg) (h : Int) {a b : Nat} (hb : b < 5) : tStr T h 2 (5 * a + b) = if a = nS T ∨ b = nS T then (if a = b then 0 else 5) else T 2 (5 * a + b) := by simp [tStr, (dv5 (a := a) hb).1, (dv5 (a := a) hb).2]
theorem tStr6 (T : Sg) (h : Int) {p s : Nat} (hs : s < 5) : tStr T h 6 (5 * p + s) = if s = nS T then 10 else T 6 (5 * p + s) := by simp [tStr, (dv5 (a := p) hs).2]
theorem tStrp (T : Sg) (h : Int) (i p : Nat) (hi : 3 ≤ i) (h6 : i ≠ 6) : tStr T h i p = T i p := by
  unfold tStr
  rw [if_neg (by omega), if_neg (by omega), if_neg (by omega), if_neg (by omega)]
theorem WF_tStr {T : Sg} {h : Int} (hw : WF T) (h5 : T 0 0 < 5) (h1 : 1 ≤ h ∧ h ≤ 4) : WF (tStr T h) := by
  obtain ⟨⟨⟨a1, a2⟩, ⟨a3, a4⟩, ⟨a5, a6⟩, ⟨a7, a8⟩, a9⟩, wh, ww, wp⟩ := id hw
  have hnS : ((nS T : Nat) : Int) = T 0 0 := Int.toNat_of_nonneg a1
  refine ⟨⟨⟨by rw [tStr0]; omega, by rw [tStr0]; omega⟩, ⟨a3, a4⟩, ⟨a5, a6⟩, ⟨a7, a8⟩, a9⟩, fun s hs => ?_, fun a b ha hb => ?_, fun p hp => ?_⟩
  · rw [tStr0] at hs
    rw [tStr1]
    split
    · exact h1
    · exact wh s (by omega)
  · rw [tStr0] at ha hb
    unfold WFw
    rw [tStr2 T h (by omega), tStr2 T h (by omega)]
    by_cases q : a = nS T ∨ b = nS T
    · rw [if_pos q, if_pos (Or.comm.1 q)]
      by_cases e : a = b
      · rw [if_pos e, if_pos e.symm]; exact ⟨by omega, rfl, fun _ => rfl⟩
      · rw [if_neg e, if_neg (Ne.symm e)]; exact ⟨by omega, rfl, fun q => absurd q e⟩
    · rw [if_neg q, if_neg (fun z => q (Or.comm.1 z))]
      exact ww a b (by omega) (by omega)
  · rw [tStr01] at hp
    obtain ⟨b1, b2, b3, b4, b5⟩ := wp p hp
    unfold WFp
    rw [tStrp T h 3 p (by omega) (by omega), tStrp T h 4 p (by omega) (by omega), tStrp T h 5 p (by omega) (by omega), tStrp T h 7 p (by omega) (by omega), tStr0]
    refine ⟨b1, b2, b3, by omega, fun s hs => ?_⟩
    rw [tStr6 T h (by omega)]
    split
    · omega
    · exact b5 s (by omega)
theorem s_setMinutes {d t a b : Nat} {v : Int} {σ : Sg} {K : Kt} (ht : TW t) (ha : a < 5) (hb : b < 5) (hk : K 0 (up (up σ (t + 2) (5 * a + b) v) (t + 2) (5 * b + a) v)) : wpCall (d + 1) iX3_setMinutes [aR t, aI (a : Nat), aI (b : Nat), aI v] σ K := by
  obtain ⟨l1, l2, l3, l4, l5, l6, l7, l8⟩ := tw_len ht
  refine bX3_setMinutes ?_
  rw [ix5 (by omega) (by omega), ix5 (by omega) (by omega), Int.toNat_natCast, Int.toNat_natCast]
  exact ⟨ht, by omega, by omega, ht, by omega, by omega, hk⟩
theorem s_setWish {d t p s : Nat} {v : Int} {σ : Sg} {K : Kt} (ht : TW t) (hp : p < 8) (hs : s < 5) (hk : K 0 (up σ (t + 6) (5 * p + s) v)) : wpCall (d + 1) iX3_setWish [aR t, aI (p : Nat), aI (s : Nat), aI v] σ K := by
  obtain ⟨l1, l2, l3, l4, l5, l6, l7, l8⟩ := tw_len ht
  refine bX3_setWish ?_
  rw [ix5 (by omega) (by omega), Int.toNat_natCast]
  exact ⟨ht, by omega, by omega, hk⟩
theorem ix_ne {a b x y : Nat} (hb : b < 5) (hy : y < 5) (h : ¬ (a = x ∧ b = y)) : 5 * a + b ≠ 5 * x + y := by omega
theorem s_addStreet {d t : Nat} {h : Int} {σ T : Sg} {K : Kt} (hv : TV σ t T) (hw : WF T) (hx : CX σ t) (h5 : T 0 0 < 5) (hk : ∀ σ', Ex [t, t + 1, t + 2, t + 6] σ σ' → TV σ' t (tStr T h) → CX σ' t → K 0 σ') : wpCall (d + 2) iX3_addStreet [aR t, aI h] σ K := by
  obtain ⟨ht, ⟨e0, e3, e9, e10, e11⟩, eh, ew, ep⟩ := id hv
  obtain ⟨l1, l2, l3, l4, l5, l6, l7, l8⟩ := tw_len ht
  obtain ⟨⟨⟨a1, a2⟩, ⟨a3, a4⟩, ⟨a5, a6⟩, ⟨a7, a8⟩, a9⟩, wh, ww, wp⟩ := id hw
  have hnP : ((nP T : Nat) : Int) = T 0 1 := Int.toNat_of_nonneg a3
  have hnS : ((nS T : Nat) : Int) = T 0 0 := Int.toNat_of_nonneg a1
  refine bX3_addStreet ⟨ht, s_hasRoomForStreet hv (fun _ => ?_) (fun q => absurd h5 q)⟩
  obtain ⟨n, hn⟩ : ∃ n : Nat, nS T = n := ⟨_, rfl⟩
  refine ⟨fun q => absurd q (by decide), fun _ => ⟨ht, ht, ht, ht, by omega, by omega, ?_⟩⟩
  rw [show σ t 0 = ((n : Nat) : Int) by omega, wr1 (by omega), Int.toNat_natCast]
  have fin : ∀ σ3, Ex [t, t + 1, t + 2, t + 6] σ σ3 → σ3 t 0 = ((n + 1 : Nat) : Int) → (∀ k, k ≠ 0 → σ3 t k = σ t k) → (∀ k, σ3 (t + 1) k = if k = n then h else σ (t + 1) k) → (∀ a b : Nat, a < 5 → b < 5 → σ3 (t + 2) (5 * a + b) = if (a = n ∧ b < n) ∨ (b = n ∧ a < n) then 5 else σ (t + 2) (5 * a + b)) → (∀ q s : Nat, s < 5 → σ3 (t + 6) (5 * q + s) = if s = n ∧ q < nP T then 10 else σ (t + 6) (5 * q + s)) → K 0 σ3 := by
    intro σ3 he f0 f1 f2 f3 f6
    refine hk σ3 he ⟨ht, ⟨by rw [tStr0, f0]; omega, by rw [f1 3 (by omega)]; exact e3, by rw [f1 9 (by omega)]; exact e9, by rw [f1 10 (by omega)]; exact e10, by rw [f1 11 (by omega)]; exact e11⟩, fun s hs => ?_, fun a b ha hb => ?_, fun p hp => ?_⟩ (fun a ha => ?_)
    · rw [tStr0] at hs
      rw [f2, tStr1, hn]
      split
      · rfl
      · exact eh s (by omega)
    · rw [tStr0] at ha hb
      rw [f3 a b (by omega) (by omega), tStr2 T h (by omega), hn]
      by_cases q : a = n ∨ b = n
      · rw [if_pos q]
        by_cases e : a = b
        · rw [if_pos e, if_neg (by omega)]
          have := hx a (by omega)
          rw [show 5 * a + b = 6 * a by omega]; exact this
        · rw [if_neg e, if_pos (by omega)]
      · rw [if_neg q, if_neg (by omega)]
        exact ew a b (by omega) (by omega)
    · rw [tStr01] at hp
      obtain ⟨b1, b2, b3, b4, b5⟩ := ep p hp
      unfold TVp
      rw [tStrp T h 3 p (by omega) (by omega), tStrp T h 4 p (by omega) (by omega), tStrp T h 5 p (by omega) (by omega), tStrp T h 7 p (by omega) (by omega), tStr0]
      refine ⟨by rw [he (t + 3) (by simp)]; exact b1, by rw [he (t + 4) (by simp)]; exact b2, by rw [he (t + 5) (by simp)]; exact b3, by rw [he (t + 7) (by simp)]; exact b4, fun s hs => ?_⟩
      rw [f6 p s (by omega), tStr6 T h (by omega), hn]
      by_cases q : s = n
      · rw [if_pos q, if_pos ⟨q, by omega⟩]
      · rw [if_neg q, if_neg (fun z => q z.1)]
        exact b5 s (by omega)
    · have := f3 a a ha ha
      rw [show 5 * a + a = 6 * a by omega, if_neg (by omega)] at this
      rw [this]; exact hx a ha
  have lp2 : ∀ σ2, Ex [t, t + 1, t + 2] σ σ2 → σ2 t 0 = ((n + 1 : Nat) : Int) → (∀ k, k ≠ 0 → σ2 t k = σ t k) → (∀ k, σ2 (t + 1) k = if k = n then h else σ (t + 1) k) → (∀ a b : Nat, a < 5 → b < 5 → σ2 (t + 2) (5 * a + b) = if (a = n ∧ b < n) ∨ (b = n ∧ a < n) then 5 else σ (t + 2) (5 * a + b)) → wpL (wpCall (d + 1)) mX3_addStreet K 52 [aR t, aU, aI (n : Nat), aI 0] [] σ2 := by
    intro σ2 he f0 f1 f2 f3
    refine dwn (W := fun p => ∀ σ3, Ex [t + 6] σ2 σ3 → (∀ q s : Nat, s < 5 → σ3 (t + 6) (5 * q + s) = if s = n ∧ q < p then 10 else σ (t + 6) (5 * q + s)) → wpL (wpCall (d + 1)) mX3_addStreet K 52 [aR t, aU, aI (n : Nat), aI (p : Nat)] [] σ3) (nP T) (fun σ3 h3 hi => ?_) (fun p hp ih σ3 h3 hi => ?_) 0 (Nat.zero_le _) σ2 Ex.rf (fun q s hs => by rw [if_neg (by omega)]; exact he _ (by simp) _)
    · have g3 : σ3 t 3 = T 0 1 := by rw [h3 t (by simp), f1 3 (by omega)]; exact e3
      refine bX3_addStreet_52 ⟨ht, fun q => absurd q (by omega), fun _ => fin σ3 (he.tr h3 (by simp) (by simp)) ?_ ?_ ?_ ?_ hi⟩
      · rw [h3 t (by simp)]; exact f0
      · intro k hk0; rw [h3 t (by simp)]; exact f1 k hk0
      · intro k; rw [h3 (t + 1) (by simp)]; exact f2 k
      · intro a b ha hb; rw [h3 (t + 2) (by simp)]; exact f3 a b ha hb
    · have g3 : σ3 t 3 = T 0 1 := by rw [h3 t (by simp), f1 3 (by omega)]; exact e3
      refine bX3_addStreet_52 ⟨ht, fun q => ⟨ht, s_setWish ht (by omega) (by omega) ?_⟩, fun q => absurd hp (by omega)⟩
      rw [wr1 (by omega)]
      refine ih _ (h3.up (by simp)) (fun q s hs => ?_)
      by_cases e : q = p ∧ s = n
      · rw [e.1, e.2, up_self, if_pos ⟨rfl, by omega⟩]
      · rw [up_nk (ix_ne hs (by omega) e), hi q s hs]
        by_cases z : s = n ∧ q < p
        · rw [if_pos z, if_pos ⟨z.1, by omega⟩]
        · rw [if_neg z, if_neg (by omega)]
  refine dwn (W := fun j => ∀ σ1, Ex [t, t + 1, t + 2] σ σ1 → σ1 t 0 = ((n + 1 : Nat) : Int) → (∀ k, k ≠ 0 → σ1 t k = σ t k) → (∀ k, σ1 (t + 1) k = if k = n then h else σ (t + 1) k) → (∀ a b : Nat, a < 5 → b < 5 → σ1 (t + 2) (5 * a + b) = if (a = n ∧ b < j) ∨ (b = n ∧ a < j) then 5 else σ (t + 2) (5 * a + b)) → wpL (wpCall (d + 1)) mX3_addStreet K 32 [aR t, aU, aI (n : Nat), aI (j : Nat)] [] σ1) n (fun σ1 h1 f0 f1 f2 f3 => ?_) (fun j hj ih σ1 h1 f0 f1 f2 f3 => ?_) 0 (Nat.zero_le _) _ ((Ex.rf.up (by simp)).up (by simp)) ?_ (fun k hk0 => ?_) (fun k => ?_) (fun a b ha hb => ?_)
  · exact bX3_addStreet_32 ⟨fun q => absurd q (by omega), fun _ => lp2 σ1 h1 f0 f1 f2 f3⟩
  · refine bX3_addStreet_32 ⟨fun q => ⟨ht, s_setMinutes ht (by omega) (by omega) ?_⟩, fun q => absurd hj (by omega)⟩
    rw [wr1 (by omega)]
    refine ih _ ((h1.up (by simp)).up (by simp)) ?_ ?_ ?_ (fun a b ha hb => ?_)
    · rw [up_ne (by omega), up_ne (by omega)]; exact f0
    · intro k hk0; rw [up_ne (by omega), up_ne (by omega)]; exact f1 k hk0
    · intro k; rw [up_ne (by omega), up_ne (by omega)]; exact f2 k
    · by_cases e : a = j ∧ b = n
      · rw [e.1, e.2, up_self, if_pos (by omega)]
      · rw [up_nk (ix_ne hb (by omega) e)]
        by_cases e2 : a = n ∧ b = j
        · rw [e2.1, e2.2, up_self, if_pos (by omega)]
        · rw [up_nk (ix_ne hb (by omega) e2), f3 a b ha hb]
          by_cases z : (a = n ∧ b < j) ∨ (b = n ∧ a < j)
          · rw [if_pos z, if_pos (by omega)]
          · rw [if_neg z, if_neg (by omega)]
  · rw [up_ne (by omega), up_self]
  · rw [up_ne (by omega), up_nk hk0]
  · by_cases e : k = n
    · rw [e, up_self, if_pos rfl]
    · rw [up_nk e, up_ne (by omega), if_neg e]
  · rw [up_ne (by omega), up_ne (by omega), if_neg (by omega)]
theorem tPer00 (T : Sg) (c ti hi : Int) : tPer T c ti hi 0 0 = T 0 0 := rfl
theorem tPer01 (T : Sg) (c ti hi : Int) : tPer T c ti hi 0 1 = T 0 1 + 1 := rfl
theorem tPer1 (T : Sg) (c ti hi : Int) (s : Nat) : tPer T c ti hi 1 s = T 1 s := rfl
theorem tPer2 (T : Sg) (c ti hi : Int) (s : Nat) : tPer T c ti hi 2 s = T 2 s := rfl
theorem tPer3 (T : Sg) (c ti hi : Int) (p : Nat) : tPer T c ti hi 3 p = if p = nP T then c else T 3 p := by simp [tPer]
theorem tPer4 (T : Sg) (c ti hi : Int) (p : Nat) : tPer T c ti hi 4 p = if p = nP T then hi else T 4 p := by simp [tPer]
theorem tPer5 (T : Sg) (c ti hi : Int) (p : Nat) : tPer T c ti hi 5 p = if p = nP T then ti else T 5 p := by simp [tPer]
theorem tPer7 (T : Sg) (c ti hi : Int) (p : Nat) : tPer T c ti hi 7 p = if p = nP T then 9 else T 7 p := by simp [tPer]
theorem tPer6 (T : Sg) (c ti hi : Int) {p s : Nat} (hs : s < 5) : tPer T c ti hi 6 (5 * p + s) = if p = nP T then 10 else T 6 (5 * p + s) := by simp [tPer, (dv5 (a := p) hs).1]
theorem WF_tPer {T : Sg} {c ti hi : Int} (hw : WF T) (h8 : T 0 1 < 8) (hc : U8 c) (hh : U8 hi) (ht : ti = -4 ∨ (0 ≤ ti ∧ ti < T 0 1)) : WF (tPer T c ti hi) := by
  obtain ⟨⟨⟨a1, a2⟩, ⟨a3, a4⟩, ⟨a5, a6⟩, ⟨a7, a8⟩, a9⟩, wh, ww, wp⟩ := id hw
  have hnP : ((nP T : Nat) : Int) = T 0 1 := Int.toNat_of_nonneg a3
  refine ⟨⟨⟨a1, a2⟩, ⟨by rw [tPer01]; omega, by rw [tPer01]; omega⟩, ⟨a5, a6⟩, ⟨a7, a8⟩, a9⟩, wh, ww, fun p hp => ?_⟩
  rw [tPer01] at hp
  unfold WFp
  rw [tPer3, tPer4, tPer5, tPer7, tPer00]
  by_cases q : p = nP T
  · rw [if_pos q, if_pos q, if_pos q, if_pos q]
    refine ⟨hc, hh, by omega, Or.inl rfl, fun s hs => ?_⟩
    rw [tPer6 T c ti hi (by omega), if_pos q]; omega
  · obtain ⟨b1, b2, b3, b4, b5⟩ := wp p (by omega)
    rw [if_neg q, if_neg q, if_neg q, if_neg q]
    refine ⟨b1, b2, b3, b4, fun s hs => ?_⟩
    rw [tPer6 T c ti hi (by omega), if_neg q]; exact b5 s hs
theorem s_addPerson {d t : Nat} {c ti hi : Int} {σ T : Sg} {K : Kt} (hv : TV σ t T) (hw : WF T) (h8 : T 0 1 < 8) (hk : ∀ σ', Ex [t, t + 3, t + 4, t + 5, t + 6, t + 7] σ σ' → TV σ' t (tPer T c ti hi) → K 0 σ') : wpCall (d + 2) iX3_addPerson [aR t, aI c, aI ti, aI hi] σ K := by
  obtain ⟨ht, ⟨e0, e3, e9, e10, e11⟩, eh, ew, ep⟩ := id hv
  obtain ⟨l1, l2, l3, l4, l5, l6, l7, l8⟩ := tw_len ht
  obtain ⟨⟨⟨a1, a2⟩, ⟨a3, a4⟩, ⟨a5, a6⟩, ⟨a7, a8⟩, a9⟩, wh, ww, wp⟩ := id hw
  have hnP : ((nP T : Nat) : Int) = T 0 1 := Int.toNat_of_nonneg a3
  have hnS : ((nS T : Nat) : Int) = T 0 0 := Int.toNat_of_nonneg a1
  refine bX3_addPerson ⟨ht, s_hasRoomForPerson hv (fun _ => ?_) (fun q => absurd h8 q)⟩
  obtain ⟨n, hn⟩ : ∃ n : Nat, nP T = n := ⟨_, rfl⟩
  refine ⟨fun q => absurd q (by decide), fun _ => ⟨ht, ht, ht, ht, by omega, by omega, ht, by omega, by omega, ht, by omega, by omega, ht, by omega, by omega, ?_⟩⟩
  rw [show σ t 3 = ((n : Nat) : Int) by omega, wr1 (by omega), Int.toNat_natCast]
  refine dwn (W := fun j => ∀ σ3, Ex [t, t + 3, t + 4, t + 5, t + 6, t + 7] σ σ3 → σ3 t 3 = ((n + 1 : Nat) : Int) → (∀ k, k ≠ 3 → σ3 t k = σ t k) → (∀ k, σ3 (t + 3) k = if k = n then c else σ (t + 3) k) → (∀ k, σ3 (t + 4) k = if k = n then hi else σ (t + 4) k) → (∀ k, σ3 (t + 5) k = if k = n then ti else σ (t + 5) k) → (∀ k, σ3 (t + 7) k = if k = n then 9 else σ (t + 7) k) → (∀ q s : Nat, s < 5 → σ3 (t + 6) (5 * q + s) = if q = n ∧ s < j then 10 else σ (t + 6) (5 * q + s)) → wpL (wpCall (d + 1)) mX3_addPerson K 60 [aR t, aU, aU, aU, aI (n : Nat), aI (j : Nat)] [] σ3) (nS T) (fun σ3 he f0 f1 f3 f4 f5 f7 f6 => ?_) (fun j hj ih σ3 he f0 f1 f3 f4 f5 f7 f6 => ?_) 0 (Nat.zero_le _) _ ?_ ?_ (fun k hk0 => ?_) (fun k => ?_) (fun k => ?_) (fun k => ?_) (fun k => ?_) (fun q s hs => ?_)
  · have g0 : σ3 t 0 = T 0 0 := by rw [f1 0 (by omega)]; exact e0
    refine bX3_addPerson_60 ⟨ht, fun q => absurd q (by omega), fun _ => hk σ3 he ⟨ht, ⟨g0, by rw [tPer01, f0]; omega, by rw [f1 9 (by omega)]; exact e9, by rw [f1 10 (by omega)]; exact e10, by rw [f1 11 (by omega)]; exact e11⟩, fun s hs => ?_, fun a b ha hb => ?_, fun p hp => ?_⟩⟩
    · rw [he (t + 1) (by simp)]; exact eh s hs
    · rw [he (t + 2) (by simp)]; exact ew a b ha hb
    · rw [tPer01] at hp
      unfold TVp
      rw [tPer3, tPer4, tPer5, tPer7, tPer00, f3, f4, f5, f7, hn]
      by_cases q : p = n
      · simp only [if_pos q, true_and]
        intro s hs
        rw [tPer6 T c ti hi (by omega), if_pos (by omega), f6 p s (by omega), if_pos (by omega)]
      · obtain ⟨b1, b2, b3, b4, b5⟩ := ep p (by omega)
        simp only [if_neg q]
        refine ⟨b1, b2, b3, b4, fun s hs => ?_⟩
        rw [tPer6 T c ti hi (by omega), if_neg (by omega), f6 p s (by omega), if_neg (by omega)]
        exact b5 s hs
  · have g0 : σ3 t 0 = T 0 0 := by rw [f1 0 (by omega)]; exact e0
    refine bX3_addPerson_60 ⟨ht, fun q => ⟨ht, s_setWish ht (by omega) (by omega) ?_⟩, fun q => absurd hj (by omega)⟩
    rw [wr1 (by omega)]
    refine ih _ (he.up (by simp)) ?_ (fun k hk0 => ?_) (fun k => ?_) (fun k => ?_) (fun k => ?_) (fun k => ?_) (fun q s hs => ?_)
    · rw [up_ne (by omega)]; exact f0
    · rw [up_ne (by omega)]; exact f1 k hk0
    · rw [up_ne (by omega)]; exact f3 k
    · rw [up_ne (by omega)]; exact f4 k
    · rw [up_ne (by omega)]; exact f5 k
    · rw [up_ne (by omega)]; exact f7 k
    · by_cases e : q = n ∧ s = j
      · rw [e.1, e.2, up_self, if_pos (by omega)]
      · rw [up_nk (ix_ne hs (by omega) e), f6 q s hs]
        by_cases z : q = n ∧ s < j
        · rw [if_pos z, if_pos (by omega)]
        · rw [if_neg z, if_neg (by omega)]
  · exact ((((Ex.rf.up (by simp)).up (by simp)).up (by simp)).up (by simp)).up (by simp)
  · rw [up_ne (by omega), up_ne (by omega), up_ne (by omega), up_ne (by omega), up_self]
  · rw [up_ne (by omega), up_ne (by omega), up_ne (by omega), up_ne (by omega), up_nk hk0]
  · rw [up_ne (by omega), up_ne (by omega), up_ne (by omega)]
    by_cases e : k = n
    · rw [e, up_self, if_pos rfl]
    · rw [up_nk e, up_ne (by omega), if_neg e]
  · rw [up_ne (by omega)]
    by_cases e : k = n
    · rw [e, up_self, if_pos rfl]
    · rw [up_nk e, up_ne (by omega), up_ne (by omega), up_ne (by omega), if_neg e]
  · rw [up_ne (by omega), up_ne (by omega)]
    by_cases e : k = n
    · rw [e, up_self, if_pos rfl]
    · rw [up_nk e, up_ne (by omega), up_ne (by omega), if_neg e]
  · by_cases e : k = n
    · rw [e, up_self, if_pos rfl]
    · rw [up_nk e, up_ne (by omega), up_ne (by omega), up_ne (by omega), up_ne (by omega), if_neg e]
  · rw [up_ne (by omega), up_ne (by omega), up_ne (by omega), up_ne (by omega), up_ne (by omega), if_neg (by omega)]
/-! small changes -/
theorem WF_tWay {T : Sg} {a b : Nat} {v : Int} (hw : WF T) (ha : (a : Int) < T 0 0) (hb : (b : Int) < T 0 0) (hne : a ≠ b) (hv : 0 ≤ v ∧ v ≤ 9) : WF (tWay T a b v) := by
  obtain ⟨wn, wh, ww, wp⟩ := id hw
  have h0 : ∀ i k, i ≠ 2 → tWay T a b v i k = T i k := fun i k hi => by unfold tWay; rw [up_ne hi, up_ne hi]
  have h5 : T 0 0 ≤ 5 := wn.1.2
  have key : ∀ x y : Nat, x < 5 → y < 5 → tWay T a b v 2 (5 * x + y) = if (x = a ∧ y = b) ∨ (x = b ∧ y = a) then v else T 2 (5 * x + y) := by
    intro x y hx hy
    unfold tWay
    by_cases e : x = b ∧ y = a
    · rw [e.1, e.2, up_self, if_pos (by omega)]
    · rw [up_nk (ix_ne hy (by omega) e)]
      by_cases e2 : x = a ∧ y = b
      · rw [e2.1, e2.2, up_self, if_pos (by omega)]
      · rw [up_nk (ix_ne hy (by omega) e2), if_neg (by omega)]
  refine ⟨wn, wh, fun x y hx hy => ?_, fun p hp => ?_⟩
  · rw [h0 0 0 (by omega)] at hx hy
    unfold WFw
    rw [key x y (by omega) (by omega), key y x (by omega) (by omega)]
    by_cases q : (x = a ∧ y = b) ∨ (x = b ∧ y = a)
    · rw [if_pos q, if_pos (by omega)]; exact ⟨hv, rfl, by omega⟩
    · rw [if_neg q, if_neg (by omega)]; exact ww x y hx hy
  · exact wp p hp
theorem WF_tWish {T : Sg} {p s : Nat} {v : Int} (hw : WF T) (hs : (s : Int) < T 0 0) (hv : 0 ≤ v ∧ v ≤ 99) : WF (tWish T p s v) := by
  obtain ⟨wn, wh, ww, wp⟩ := id hw
  have h5 : T 0 0 ≤ 5 := wn.1.2
  refine ⟨wn, wh, ww, fun q hq => ?_⟩
  obtain ⟨b1, b2, b3, b4, b5⟩ := wp q hq
  refine ⟨b1, b2, b3, b4, fun x hx => ?_⟩
  unfold tWish
  by_cases e : 5 * q + x = 5 * p + s
  · rw [e, up_self]; exact hv
  · rw [up_nk e]; exact b5 x hx
theorem WF_tLaw {T : Sg} {a b c : Int} (hw : WF T) (ha : 1 ≤ a ∧ a ≤ 3) (hb : 0 ≤ b ∧ b ≤ 9) (hc : U8 c) : WF (tLaw T a b c) := by
  obtain ⟨⟨w1, w2, w3, w4, w5⟩, wh, ww, wp⟩ := id hw
  exact ⟨⟨w1, w2, ha, hb, hc⟩, wh, ww, wp⟩
theorem WF_tLive {T : Sg} {p : Nat} {s : Int} (hw : WF T) (hs : s = 9 ∨ (0 ≤ s ∧ s < T 0 0)) : WF (tLive T p s) := by
  obtain ⟨wn, wh, ww, wp⟩ := id hw
  refine ⟨wn, wh, ww, fun q hq => ?_⟩
  obtain ⟨b1, b2, b3, b4, b5⟩ := wp q hq
  refine ⟨b1, b2, b3, ?_, b5⟩
  unfold tLive
  by_cases e : q = p
  · rw [e, up_self]; exact hs
  · rw [up_nk e]; exact b4
/-- the class's town and the small changes -/
theorem TV_tWay {σ T : Sg} {t a b : Nat} {v : Int} (hv : TV σ t T) (ha : (a : Int) < T 0 0) (hb : (b : Int) < T 0 0) (h5 : T 0 0 ≤ 5) : TV (up (up σ (t + 2) (5 * a + b) v) (t + 2) (5 * b + a) v) t (tWay T a b v) := by
  obtain ⟨ht, ⟨e0, e3, e9, e10, e11⟩, eh, ew, ep⟩ := id hv
  have h0 : ∀ i k, i ≠ t + 2 → up (up σ (t + 2) (5 * a + b) v) (t + 2) (5 * b + a) v i k = σ i k := fun i k hi => by rw [up_ne hi, up_ne hi]
  refine ⟨ht, ⟨by rw [h0 _ _ (by omega)]; exact e0, by rw [h0 _ _ (by omega)]; exact e3, by rw [h0 _ _ (by omega)]; exact e9, by rw [h0 _ _ (by omega)]; exact e10, by rw [h0 _ _ (by omega)]; exact e11⟩, fun s hs => by rw [h0 _ _ (by omega)]; exact eh s hs, fun x y hx hy => ?_, fun p hp => ?_⟩
  · have hx5 : (x : Int) < T 0 0 := hx
    have hy5 : (y : Int) < T 0 0 := hy
    unfold tWay
    by_cases e : 5 * x + y = 5 * b + a
    · rw [e, up_self, up_self]
    · rw [up_nk e, up_nk e]
      by_cases e2 : 5 * x + y = 5 * a + b
      · rw [e2, up_self, up_self]
      · rw [up_nk e2, up_nk e2]; exact ew x y hx hy
  · obtain ⟨b1, b2, b3, b4, b5⟩ := ep p hp
    exact ⟨by rw [h0 _ _ (by omega)]; exact b1, by rw [h0 _ _ (by omega)]; exact b2, by rw [h0 _ _ (by omega)]; exact b3, by rw [h0 _ _ (by omega)]; exact b4, fun s hs => by rw [h0 _ _ (by omega)]; exact b5 s hs⟩
theorem CX_tWay {σ : Sg} {t a b : Nat} {v : Int} (hx : CX σ t) (ha : a < 5) (hb : b < 5) (hne : a ≠ b) : CX (up (up σ (t + 2) (5 * a + b) v) (t + 2) (5 * b + a) v) t := fun x h5 => by
  rw [up_nk (by omega), up_nk (by omega)]; exact hx x h5
theorem TV_tWish {σ T : Sg} {t p s : Nat} {v : Int} (hv : TV σ t T) : TV (up σ (t + 6) (5 * p + s) v) t (tWish T p s v) := by
  obtain ⟨ht, ⟨e0, e3, e9, e10, e11⟩, eh, ew, ep⟩ := id hv
  have h0 : ∀ i k, i ≠ t + 6 → up σ (t + 6) (5 * p + s) v i k = σ i k := fun i k hi => by rw [up_ne hi]
  refine ⟨ht, ⟨by rw [h0 _ _ (by omega)]; exact e0, by rw [h0 _ _ (by omega)]; exact e3, by rw [h0 _ _ (by omega)]; exact e9, by rw [h0 _ _ (by omega)]; exact e10, by rw [h0 _ _ (by omega)]; exact e11⟩, fun s hs => by rw [h0 _ _ (by omega)]; exact eh s hs, fun x y hx hy => by rw [h0 _ _ (by omega)]; exact ew x y hx hy, fun q hq => ?_⟩
  obtain ⟨b1, b2, b3, b4, b5⟩ := ep q hq
  refine ⟨by rw [h0 _ _ (by omega)]; exact b1, by rw [h0 _ _ (by omega)]; exact b2, by rw [h0 _ _ (by omega)]; exact b3, by rw [h0 _ _ (by omega)]; exact b4, fun x hx => ?_⟩
  unfold tWish
  by_cases e : 5 * q + x = 5 * p + s
  · rw [e, up_self, up_self]
  · rw [up_nk e, up_nk e]; exact b5 x hx
theorem TV_tLaw {σ T : Sg} {t : Nat} {a b c : Int} (hv : TV σ t T) : TV (up (up (up σ t 9 a) t 10 b) t 11 c) t (tLaw T a b c) := by
  obtain ⟨ht, ⟨e0, e3, e9, e10, e11⟩, eh, ew, ep⟩ := id hv
  have h0 : ∀ i k, i ≠ t → up (up (up σ t 9 a) t 10 b) t 11 c i k = σ i k := fun i k hi => by rw [up_ne hi, up_ne hi, up_ne hi]
  refine ⟨ht, ⟨?_, ?_, ?_, ?_, ?_⟩, fun s hs => by rw [h0 _ _ (by omega)]; exact eh s hs, fun x y hx hy => by rw [h0 _ _ (by omega)]; exact ew x y hx hy, fun q hq => ?_⟩
  · rw [up_nk (by omega), up_nk (by omega), up_nk (by omega)]; exact e0
  · rw [up_nk (by omega), up_nk (by omega), up_nk (by omega)]; exact e3
  · rw [up_nk (by omega), up_nk (by omega), up_self]; rfl
  · rw [up_nk (by omega), up_self]; rfl
  · rw [up_self]; rfl
  · obtain ⟨b1, b2, b3, b4, b5⟩ := ep q hq
    exact ⟨by rw [h0 _ _ (by omega)]; exact b1, by rw [h0 _ _ (by omega)]; exact b2, by rw [h0 _ _ (by omega)]; exact b3, by rw [h0 _ _ (by omega)]; exact b4, fun s hs => by rw [h0 _ _ (by omega)]; exact b5 s hs⟩
theorem TV_tLive {σ T : Sg} {t p : Nat} {v : Int} (hv : TV σ t T) : TV (up σ (t + 7) p v) t (tLive T p v) := by
  obtain ⟨ht, ⟨e0, e3, e9, e10, e11⟩, eh, ew, ep⟩ := id hv
  have h0 : ∀ i k, i ≠ t + 7 → up σ (t + 7) p v i k = σ i k := fun i k hi => by rw [up_ne hi]
  refine ⟨ht, ⟨by rw [h0 _ _ (by omega)]; exact e0, by rw [h0 _ _ (by omega)]; exact e3, by rw [h0 _ _ (by omega)]; exact e9, by rw [h0 _ _ (by omega)]; exact e10, by rw [h0 _ _ (by omega)]; exact e11⟩, fun s hs => by rw [h0 _ _ (by omega)]; exact eh s hs, fun x y hx hy => by rw [h0 _ _ (by omega)]; exact ew x y hx hy, fun q hq => ?_⟩
  obtain ⟨b1, b2, b3, b4, b5⟩ := ep q hq
  refine ⟨by rw [h0 _ _ (by omega)]; exact b1, by rw [h0 _ _ (by omega)]; exact b2, by rw [h0 _ _ (by omega)]; exact b3, ?_, fun x hx => by rw [h0 _ _ (by omega)]; exact b5 x hx⟩
  unfold tLive
  by_cases e : q = p
  · rw [e, up_self, up_self]
  · rw [up_nk e, up_nk e]; exact b4
