/-! homes change -/
theorem up_f {σ : Sg} {a k b : Nat} {v : Int} (h : b ≠ a) : up σ a k v b = σ b := funext fun j => up_ne h
theorem up_back {σ : Sg} {a k : Nat} {v : Int} : up (up σ a k v) a k (σ a k) = σ := by
  funext b j
  by_cases e : b = a ∧ j = k
  · rw [e.1, e.2, up_self]
  · unfold up
    rw [if_neg e, if_neg e]
theorem up_up {σ : Sg} {a k : Nat} {v w : Int} : up (up σ a k v) a k w = up σ a k w := by
  funext b j
  unfold up
  by_cases e : b = a ∧ j = k
  · rw [if_pos e, if_pos e]
  · rw [if_neg e, if_neg e, if_neg e]
theorem up_same {σ : Sg} {a k : Nat} : up σ a k (σ a k) = σ := by
  funext b j
  unfold up
  by_cases e : b = a ∧ j = k
  · rw [if_pos e, e.1, e.2]
  · rw [if_neg e]
theorem TV.home {σ : Sg} {t : Nat} {T : Sg} (hv : TV σ t T) (p : Nat) (v : Int) : TV (up σ (t + 7) p v) t (up T 7 p v) := by
  obtain ⟨ht, ⟨e0, e3, e9, e10, e11⟩, eh, ew, ep⟩ := hv
  refine ⟨ht, ⟨?_, ?_, ?_, ?_, ?_⟩, fun s hs => ?_, fun a b ha hb => ?_, fun q hq => ?_⟩
  · rw [up_ne (by omega), up_ne (by omega)]; exact e0
  · rw [up_ne (by omega), up_ne (by omega)]; exact e3
  · rw [up_ne (by omega), up_ne (by omega)]; exact e9
  · rw [up_ne (by omega), up_ne (by omega)]; exact e10
  · rw [up_ne (by omega), up_ne (by omega)]; exact e11
  · rw [up_ne (by omega)] at hs
    rw [up_ne (by omega), up_ne (by omega)]; exact eh s hs
  · rw [up_ne (by omega)] at ha hb
    rw [up_ne (by omega), up_ne (by omega)]; exact ew a b ha hb
  · rw [up_ne (by omega)] at hq
    obtain ⟨c3, c4, c5, c7, c6⟩ := ep q hq
    refine ⟨?_, ?_, ?_, ?_, fun s hs => ?_⟩
    · rw [up_ne (by omega), up_ne (by omega)]; exact c3
    · rw [up_ne (by omega), up_ne (by omega)]; exact c4
    · rw [up_ne (by omega), up_ne (by omega)]; exact c5
    · by_cases e : q = p
      · rw [e, up_self, up_self]
      · rw [up_nk e, up_nk e]; exact c7
    · rw [up_ne (by omega)] at hs
      rw [up_ne (by omega), up_ne (by omega)]; exact c6 s hs
theorem WF.home {T : Sg} (hw : WF T) (p : Nat) {v : Int} (hv : v = 9 ∨ (0 ≤ v ∧ v < T 0 0)) : WF (up T 7 p v) := by
  obtain ⟨hn, wh, ww, wp⟩ := hw
  have u0 : up T 7 p v 0 = T 0 := up_f (by omega)
  refine ⟨?_, fun s hs => ?_, fun a b ha hb => ?_, fun q hq => ?_⟩
  · unfold WFn; rw [u0]; exact hn
  · rw [u0] at hs; rw [up_f (by omega)]; exact wh s hs
  · rw [u0] at ha hb; unfold WFw; rw [up_f (by omega)]; exact ww a b ha hb
  · rw [u0] at hq
    obtain ⟨c3, c4, c5, c7, c6⟩ := wp q hq
    unfold WFp
    rw [u0, up_f (a := 7) (b := 3) (by omega), up_f (a := 7) (b := 4) (by omega), up_f (a := 7) (b := 5) (by omega), up_f (a := 7) (b := 6) (by omega)]
    refine ⟨c3, c4, c5, ?_, c6⟩
    by_cases e : q = p
    · rw [e, up_self]; exact hv
    · rw [up_nk e]; exact c7
def may (T : Sg) (p : Nat) (s : Int) : Bool := lawful (up T 7 p s)
theorem s_mayGo {d t p : Nat} {s : Int} {σ T : Sg} {K : Kt} (hv : TV σ t T) (hw : WF T) (hp : (p : Int) < T 0 1) (hs : s = 9 ∨ (0 ≤ s ∧ s < T 0 0)) (h1 : may T p s = true → ∀ σ', Ex [t + 8] σ σ' → K 1 σ') (h0 : may T p s = false → ∀ σ', Ex [t + 8] σ σ' → K 0 σ') : wpCall (d + 5) iX3_mayGo [aR t, aI (p : Nat), aI s] σ K := by
  obtain ⟨ht, ⟨e0, e3, e9, e10, e11⟩, eh, ew, ep⟩ := id hv
  obtain ⟨l1, l2, l3, l4, l5, l6, l7, l8⟩ := tw_len ht
  obtain ⟨⟨⟨a1, a2⟩, ⟨a3, a4⟩, ⟨a5, a6⟩, ⟨a7, a8⟩, a9⟩, wh, ww, wp⟩ := id hw
  have hnP : ((nP T : Nat) : Int) = T 0 1 := Int.toNat_of_nonneg a3
  have hnS : ((nS T : Nat) : Int) = T 0 0 := Int.toNat_of_nonneg a1
  refine bX3_mayGo ?_
  rw [Int.toNat_natCast]
  refine ⟨ht, by omega, by omega, ht, by omega, by omega, ht, s_firstBroken (hv.home p s) (hw.home p hs) (fun σ1 he => ?_)⟩
  have hE : Ex [t + 8] σ (up σ1 (t + 7) p (σ (t + 7) p)) := fun a ha k => by
    by_cases e : a = t + 7
    · subst e
      by_cases e2 : k = p
      · rw [e2, up_self]
      · rw [up_nk e2, he _ (by simp) k, up_nk e2]
    · rw [up_ne e, he a ha k, up_ne e]
  refine ⟨fun q => ⟨ht, by omega, by omega, by decide, h1 (by simp [may, lawful, q]) _ hE⟩, fun q => ⟨ht, by omega, by omega, by decide, h0 (by simp [may, lawful, q]) _ hE⟩⟩
def wants (T : Sg) (p s : Nat) : Bool := !decide (T 7 p = s) && decide (wNow T p < wAt T p s)
theorem s_wantsToGo {d t p s : Nat} {σ T : Sg} {K : Kt} (hv : TV σ t T) (hw : WF T) (hp : (p : Int) < T 0 1) (hs : (s : Int) < T 0 0) (h1 : wants T p s = true → K 1 σ) (h0 : wants T p s = false → K 0 σ) : wpCall (d + 4) iX3_wantsToGo [aR t, aI (p : Nat), aI (s : Nat)] σ K := by
  obtain ⟨ht, ⟨e0, e3, e9, e10, e11⟩, eh, ew, ep⟩ := id hv
  obtain ⟨l1, l2, l3, l4, l5, l6, l7, l8⟩ := tw_len ht
  obtain ⟨⟨⟨a1, a2⟩, ⟨a3, a4⟩, ⟨a5, a6⟩, ⟨a7, a8⟩, a9⟩, wh, ww, wp⟩ := id hw
  have hnP : ((nP T : Nat) : Int) = T 0 1 := Int.toNat_of_nonneg a3
  have hnS : ((nS T : Nat) : Int) = T 0 0 := Int.toNat_of_nonneg a1
  refine bX3_wantsToGo ?_
  rw [Int.toNat_natCast, (ep p hp).2.2.2.1]
  refine ⟨ht, by omega, by omega, fun q => ⟨by decide, h0 (by simp [wants, q])⟩, fun q => ⟨ht, s_worthAt hv hw hp hs ⟨ht, s_worthNow hv hw hp ⟨fun q2 => ⟨by decide, h1 (by simp [wants, q, q2])⟩, fun q2 => ⟨by decide, h0 (by simp [wants, q2])⟩⟩⟩⟩⟩
/-- the street where one may be and is worth most: found, most -/
def bsF (T : Sg) (p : Nat) : Nat → Nat → Int → Int → Int
  | 0, _, f, _ => f
  | k + 1, i, f, m => if m < wAt T p i ∧ may T p i = true then bsF T p k (i + 1) i (wAt T p i) else bsF T p k (i + 1) f m
theorem s_bestStreet {d t p : Nat} {σ T : Sg} {K : Kt} (hv : TV σ t T) (hw : WF T) (hp : (p : Int) < T 0 1) (hk : ∀ σ', Ex [t + 8] σ σ' → K (bsF T p (nS T) 0 9 (-1)) σ') : wpCall (d + 6) iX3_bestStreet [aR t, aI (p : Nat)] σ K := by
  obtain ⟨ht, ⟨e0, e3, e9, e10, e11⟩, eh, ew, ep⟩ := id hv
  obtain ⟨l1, l2, l3, l4, l5, l6, l7, l8⟩ := tw_len ht
  obtain ⟨⟨⟨a1, a2⟩, ⟨a3, a4⟩, ⟨a5, a6⟩, ⟨a7, a8⟩, a9⟩, wh, ww, wp⟩ := id hw
  have hnP : ((nP T : Nat) : Int) = T 0 1 := Int.toNat_of_nonneg a3
  have hnS : ((nS T : Nat) : Int) = T 0 0 := Int.toNat_of_nonneg a1
  have key : ∀ k i : Nat, i + k = nS T → ∀ (f m : Int) (σ1 : Sg), Ex [t + 8] σ σ1 → (∀ σ', Ex [t + 8] σ σ' → K (bsF T p k i f m) σ') → wpL (wpCall (d + 5)) mX3_bestStreet K 8 [aR t, aI (p : Nat), aI f, aI m, aI (i : Nat), aU] [] σ1 := by
    intro k
    induction k with
    | zero =>
      intro i hi f m σ1 he g
      have hv1 : TV σ1 t T := hv.ex he (fun i hi => by simp; omega)
      obtain ⟨-, ⟨f0, f3, -⟩, -⟩ := id hv1
      exact bX3_bestStreet_8 ⟨ht, fun h => absurd h (by omega), fun _ => g σ1 he⟩
    | succ k ih =>
      intro i hi f m σ1 he g
      have hv1 : TV σ1 t T := hv.ex he (fun i hi => by simp; omega)
      obtain ⟨-, ⟨f0, f3, -⟩, -⟩ := id hv1
      refine bX3_bestStreet_8 ⟨ht, fun h => ⟨ht, s_worthAt hv1 hw hp (by omega) ⟨fun q => ⟨ht, s_mayGo hv1 hw hp (by omega) (fun q2 σ2 he2 => ?_) (fun q2 σ2 he2 => ?_)⟩, fun q => ?_⟩⟩, fun h => absurd h (by omega)⟩
      · refine br_f2 (by decide) ?_
        rw [wr1 (by omega)]
        exact ih (i + 1) (by omega) _ _ σ2 (he.tr he2 (fun _ h => h) (fun _ h => h)) (fun σ' h' => kq (g σ' h') (by simp [bsF, q, q2]))
      · refine br_t2 rfl ?_
        rw [wr1 (by omega)]
        exact ih (i + 1) (by omega) _ _ σ2 (he.tr he2 (fun _ h => h) (fun _ h => h)) (fun σ' h' => kq (g σ' h') (by simp [bsF, q2]))
      · rw [wr1 (by omega)]
        exact ih (i + 1) (by omega) _ _ σ1 he (fun σ' h' => kq (g σ' h') (by simp [bsF, q]))
  exact bX3_bestStreet (key (nS T) 0 (by omega) 9 (-1) σ Ex.rf hk)
def mvd (T0 T : Sg) (p : Nat) : Bool := !decide (T 7 p = T0 7 p)
theorem s_movedSince {d t t0 : Nat} {σ T T0 : Sg} {K : Kt} (hv : TV σ t T) (hw : WF T) (hv0 : TV σ t0 T0) (hPP : T0 0 1 = T 0 1) (hk : K (cnt (mvd T0 T) (nP T)) σ) : wpCall (d + 1) iX3_movedSince [aR t, aR t0] σ K := by
  obtain ⟨ht, ⟨e0, e3, e9, e10, e11⟩, eh, ew, ep⟩ := id hv
  obtain ⟨l1, l2, l3, l4, l5, l6, l7, l8⟩ := tw_len ht
  obtain ⟨⟨⟨a1, a2⟩, ⟨a3, a4⟩, ⟨a5, a6⟩, ⟨a7, a8⟩, a9⟩, wh, ww, wp⟩ := id hw
  have hnP : ((nP T : Nat) : Int) = T 0 1 := Int.toNat_of_nonneg a3
  have hnS : ((nS T : Nat) : Int) = T 0 0 := Int.toNat_of_nonneg a1
  obtain ⟨ht0, -, -, -, ep0⟩ := id hv0
  obtain ⟨-, -, -, -, -, -, l70, -⟩ := tw_len ht0
  refine bX3_movedSince (dwn (W := fun p => wpL (wpCall d) mX3_movedSince K 4 [aR t, aR t0, aI (cnt (mvd T0 T) p), aI (p : Nat)] [] σ) (nP T) ?_ (fun p hp ih => ?_) 0 (Nat.zero_le _))
  · exact bX3_movedSince_4 ⟨ht, fun h => absurd h (by omega), fun _ => hk⟩
  · have r := cnt_r (mvd T0 T) p
    refine bX3_movedSince_4 ?_
    rw [Int.toNat_natCast, (ep p (by omega)).2.2.2.1, (ep0 p (by omega)).2.2.2.1]
    refine ⟨ht, fun h => ⟨ht, by omega, by omega, ht0, by omega, by omega, fun q => wq ih ?_, fun q => wq ih ?_⟩, fun h => absurd hp (by omega)⟩
    · rw [wr1 (by omega), cnt_f (by simp [mvd, q])]
    · rw [wr1 (by omega), cnt_t (by simp [mvd, q]), wr_id ⟨by omega, by omega⟩]
def gainOK (T0 T : Sg) (a : Bool) (p : Nat) : Bool := !mvd T0 T p || (!a || decide (wNow T0 p < wNow T p))
def wnt (T0 T : Sg) (a : Bool) : Bool := allI (gainOK T0 T a) (nP T) 0 && decide (0 < cnt (mvd T0 T) (nP T))
theorem s_isWantedSince {d t t0 : Nat} {a : Bool} {σ T T0 : Sg} {K : Kt} (hv : TV σ t T) (hw : WF T) (hv0 : TV σ t0 T0) (hw0 : WF T0) (hPP : T0 0 1 = T 0 1) (h1 : wnt T0 T a = true → K 1 σ) (h0 : wnt T0 T a = false → K 0 σ) : wpCall (d + 4) iX3_isWantedSince [aR t, aR t0, aI (b2i a)] σ K := by
  obtain ⟨ht, ⟨e0, e3, e9, e10, e11⟩, eh, ew, ep⟩ := id hv
  obtain ⟨l1, l2, l3, l4, l5, l6, l7, l8⟩ := tw_len ht
  obtain ⟨⟨⟨a1, a2⟩, ⟨a3, a4⟩, ⟨a5, a6⟩, ⟨a7, a8⟩, a9⟩, wh, ww, wp⟩ := id hw
  have hnP : ((nP T : Nat) : Int) = T 0 1 := Int.toNat_of_nonneg a3
  have hnS : ((nS T : Nat) : Int) = T 0 0 := Int.toNat_of_nonneg a1
  obtain ⟨ht0, -, -, -, ep0⟩ := id hv0
  obtain ⟨-, -, -, -, -, -, l70, -⟩ := tw_len ht0
  have key : ∀ k p : Nat, p + k = nP T → ∀ (m : Bool), m = decide (0 < cnt (mvd T0 T) p) → (allI (gainOK T0 T a) k p = true → K (b2i (decide (0 < cnt (mvd T0 T) (nP T)))) σ) → (allI (gainOK T0 T a) k p = false → K 0 σ) → wpL (wpCall (d + 3)) mX3_isWantedSince K 5 [aR t, aR t0, aI (b2i a), aI (b2i m), aI (p : Nat)] [] σ := by
    intro k
    induction k with
    | zero =>
      intro p hp m hm g1 g0
      refine bX3_isWantedSince_5 ⟨ht, fun h => absurd h (by omega), fun _ => ⟨by cases m <;> decide, ?_⟩⟩
      rw [hm, show p = nP T by omega]
      exact g1 rfl
    | succ k ih =>
      intro p hp m hm g1 g0
      have r := cnt_r (mvd T0 T) p
      refine bX3_isWantedSince_5 ?_
      rw [Int.toNat_natCast, (ep p (by omega)).2.2.2.1, (ep0 p (by omega)).2.2.2.1]
      refine ⟨ht, fun h => ⟨ht, by omega, by omega, ht0, by omega, by omega, fun q => ?_, fun q => ⟨fun q2 => ?_, fun q2 => ⟨ht, s_worthNow hv hw (by omega) ⟨ht0, s_worthNow hv0 hw0 (by omega) ⟨fun q3 => ?_, fun q3 => ⟨by decide, g0 ?_⟩⟩⟩⟩⟩⟩, fun h => absurd h (by omega)⟩
      · have hm0 : mvd T0 T p = false := by simp [mvd, q]
        rw [wr1 (by omega)]
        refine ih (p + 1) (by omega) m (by rw [cnt_f hm0]; exact hm) (fun z => g1 (by simp [allI, gainOK, hm0, z])) (fun z => g0 (by simp [allI, z]))
      · have hm0 : mvd T0 T p = true := by simp [mvd, q]
        have ha : a = false := by cases a <;> simp_all [b2i]
        rw [wr1 (by omega)]
        have hg : gainOK T0 T a p = true := by simp [gainOK, ha]
        refine ih (p + 1) (by omega) true ?_ (fun z => g1 (by simp [allI, hg, z])) (fun z => g0 (by simp [allI, z]))
        rw [cnt_t hm0]; simp; omega
      · have hm0 : mvd T0 T p = true := by simp [mvd, q]
        rw [wr1 (by omega)]
        refine ih (p + 1) (by omega) true ?_ (fun z => g1 (by simp [allI, gainOK, q3, z])) (fun z => g0 (by simp [allI, z]))
        rw [cnt_t hm0]; simp; omega
      · have hm0 : mvd T0 T p = true := by simp [mvd, q]
        have ha : a = true := by cases a <;> simp_all [b2i]
        simp [allI, gainOK, hm0, ha, q3]
  refine bX3_isWantedSince (key (nP T) 0 (by omega) false rfl (fun z => ?_) (fun z => h0 (by simp [wnt, z])))
  cases hc : decide (0 < cnt (mvd T0 T) (nP T)) with
  | true => exact h1 (by simp [wnt, z, hc])
  | false => exact h0 (by simp [wnt, hc])
def wkF (T : Sg) (s c : Nat) : Nat → Nat → Int → Int
  | 0, _, l => l
  | k + 1, i, l => wkF T s c k (i + 1) (if i ≠ s ∧ 0 < withC T i c ∧ (l = -4 ∨ T 2 (5 * s + i) < l) then T 2 (5 * s + i) else l)
theorem s_walkToOther {d t s c : Nat} {σ T : Sg} {K : Kt} (hv : TV σ t T) (hw : WF T) (hs : (s : Int) < T 0 0) (hk : K (wkF T s c (nS T) 0 (-4)) σ) : wpCall (d + 2) iX3_walkToOther [aR t, aI (s : Nat), aI (c : Nat)] σ K := by
  obtain ⟨ht, ⟨e0, e3, e9, e10, e11⟩, eh, ew, ep⟩ := id hv
  obtain ⟨l1, l2, l3, l4, l5, l6, l7, l8⟩ := tw_len ht
  obtain ⟨⟨⟨a1, a2⟩, ⟨a3, a4⟩, ⟨a5, a6⟩, ⟨a7, a8⟩, a9⟩, wh, ww, wp⟩ := id hw
  have hnP : ((nP T : Nat) : Int) = T 0 1 := Int.toNat_of_nonneg a3
  have hnS : ((nS T : Nat) : Int) = T 0 0 := Int.toNat_of_nonneg a1
  have key : ∀ k i : Nat, i + k = nS T → ∀ (l : Int), K (wkF T s c k i l) σ → wpL (wpCall (d + 1)) mX3_walkToOther K 6 [aR t, aI (s : Nat), aI (c : Nat), aI l, aI (i : Nat)] [] σ := by
    intro k
    induction k with
    | zero => exact fun i hi l g => bX3_walkToOther_6 ⟨ht, fun h => absurd h (by omega), fun _ => g⟩
    | succ k ih =>
      intro i hi l g
      have nxt : ∀ l', (if i ≠ s ∧ 0 < withC T i c ∧ (l = -4 ∨ T 2 (5 * s + i) < l) then T 2 (5 * s + i) else l) = l' → wpL (wpCall (d + 1)) mX3_walkToOther K 6 [aR t, aI (s : Nat), aI (c : Nat), aI l', aI (wr ((i : Int) + 1))] [] σ := fun l' e => by
        rw [wr1 (by omega)]
        refine ih (i + 1) (by omega) l' (kq g ?_)
        rw [← e]; rfl
      refine bX3_walkToOther_6 ⟨ht, fun h => ⟨fun q => nxt l (if_neg (fun z => z.1 (by omega))), fun q => ⟨ht, s_crowdWith hv hw ⟨fun q2 => ⟨fun q3 => ⟨ht, s_minutes hv hw hs (by omega) (nxt _ (if_pos ⟨by omega, q2, Or.inl q3⟩))⟩, fun q3 => ⟨ht, s_minutes hv hw hs (by omega) ⟨fun q4 => ⟨ht, s_minutes hv hw hs (by omega) (nxt _ (if_pos ⟨by omega, q2, Or.inr q4⟩))⟩, fun q4 => nxt l (if_neg (fun z => by rcases z.2.2 with z | z <;> omega))⟩⟩⟩, fun q2 => nxt l (if_neg (fun z => q2 z.2.1))⟩⟩⟩, fun h => absurd h (by omega)⟩
  exact bX3_walkToOther (key (nS T) 0 (by omega) (-4) hk)
theorem wkF_r {T : Sg} {s c : Nat} (hw : WF T) (hs : (s : Int) < T 0 0) : ∀ k i : Nat, i + k = nS T → ∀ l : Int, (l = -4 ∨ (0 ≤ l ∧ l ≤ 9)) → wkF T s c k i l = -4 ∨ (0 ≤ wkF T s c k i l ∧ wkF T s c k i l ≤ 9) := by
  intro k
  induction k with
  | zero => exact fun i hi l h => h
  | succ k ih =>
    intro i hi l h
    have w := (hw.2.2.1 s i hs (nS_lt (by omega))).1
    refine ih (i + 1) (by omega) _ ?_
    split
    · exact Or.inr w
    · exact h
def priceF (n w : Int) : Int := if n = 0 then 0 else (if 0 < (10 + (if w = -4 then 20 else 2 * w)) - 5 * (n - 1) then (10 + (if w = -4 then 20 else 2 * w)) - 5 * (n - 1) else 0)
theorem s_priceAt {d t s c : Nat} {σ T : Sg} {K : Kt} (hv : TV σ t T) (hw : WF T) (hs : (s : Int) < T 0 0) (hk : K (priceF (withC T s c) (wkF T s c (nS T) 0 (-4))) σ) : wpCall (d + 3) iX3_priceAt [aR t, aI (s : Nat), aI (c : Nat)] σ K := by
  obtain ⟨ht, ⟨e0, e3, e9, e10, e11⟩, eh, ew, ep⟩ := id hv
  obtain ⟨l1, l2, l3, l4, l5, l6, l7, l8⟩ := tw_len ht
  obtain ⟨⟨⟨a1, a2⟩, ⟨a3, a4⟩, ⟨a5, a6⟩, ⟨a7, a8⟩, a9⟩, wh, ww, wp⟩ := id hw
  have hnP : ((nP T : Nat) : Int) = T 0 1 := Int.toNat_of_nonneg a3
  have hnS : ((nS T : Nat) : Int) = T 0 0 := Int.toNat_of_nonneg a1
  have r := cnt_r (fun p => decide (T 7 p = s) && bit (T 3 p) c) (nP T)
  have r2 : 0 ≤ withC T s c ∧ withC T s c ≤ 8 := by unfold withC; omega
  have r3 := wkF_r (c := c) hw hs (nS T) 0 (by omega) (-4) (Or.inl rfl)
  refine bX3_priceAt ⟨ht, s_crowdWith hv hw ⟨fun q => kq hk (by simp [priceF, q]), fun q => ⟨ht, s_walkToOther hv hw hs ⟨fun q2 => kq hk ?_, fun q2 => kq hk ?_⟩⟩⟩⟩
  · have e : wr (wr (10 + 20) - wr (5 * wr (withC T s c - 1))) = 30 - 5 * (withC T s c - 1) := by unfold wr; omega
    rw [e]
    simp [priceF, q, q2]
  · have e : wr (wr (10 + wr (2 * wkF T s c (nS T) 0 (-4))) - wr (5 * wr (withC T s c - 1))) = (10 + 2 * wkF T s c (nS T) 0 (-4)) - 5 * (withC T s c - 1) := by unfold wr; omega
    rw [e]
    simp [priceF, q, q2]
def hm (T : Sg) (p : Nat) : Bool := !decide (T 7 p = 9)
def moreF (T : Sg) : Nat → Int
  | 0 => 0
  | p + 1 => if hm T p then bOr (moreF T p) (bAnd (ors (hm T) (T 3) p) (T 3 p)) else moreF T p
def allC (T : Sg) (c : Nat) : Int := cnt (fun p => hm T p && bit (T 3 p) c) (nP T)
def aloneN (T : Sg) : Int := cnt (fun c => decide (allC T c = 1)) 8
theorem moreF_bit {T : Sg} {c : Nat} (hc : c < 8) : ∀ (n : Nat), (∀ p, p < n → U8 (T 3 p)) → U8 (moreF T n) ∧ (bit (moreF T n) c = true ↔ 1 < cnt (fun p => hm T p && bit (T 3 p) c) n)
  | 0, _ => by
    refine ⟨by simp [moreF, U8], ?_⟩
    simp [moreF, bit_zero hc, cnt]
  | n + 1, h => by
    obtain ⟨u, e⟩ := moreF_bit hc n (fun p hp => h p (by omega))
    have r := cnt_r (fun p => hm T p && bit (T 3 p) c) n
    have uo : U8 (ors (hm T) (T 3) n) := U8_ors (fun p hp => h p (by omega))
    have eo := bit_ors (f := hm T) (g := T 3) hc n (fun p hp => h p (by omega))
    have un := h n (by omega)
    by_cases q : hm T n = true
    · have e1 : moreF T (n + 1) = bOr (moreF T n) (bAnd (ors (hm T) (T 3) n) (T 3 n)) := by simp [moreF, q]
      rw [e1]
      refine ⟨U8_or u (U8_and uo un), ?_⟩
      rw [bit_or u (U8_and uo un) hc, bit_and uo un hc, Bool.or_eq_true, Bool.and_eq_true, e, eo]
      by_cases hb : bit (T 3 n) c = true
      · rw [cnt_t (by simp [q, hb])]
        simp only [hb, and_true]
        omega
      · rw [cnt_f (by simp [hb])]
        simp [hb]
    · have e1 : moreF T (n + 1) = moreF T n := by simp [moreF, q]
      rw [e1, cnt_f (by simp [q])]
      exact ⟨u, e⟩
theorem s_craftsAlone {d t : Nat} {σ T : Sg} {K : Kt} (hv : TV σ t T) (hw : WF T) (hk : K (aloneN T) σ) : wpCall (d + 2) iX3_craftsAlone [aR t] σ K := by
  obtain ⟨ht, ⟨e0, e3, e9, e10, e11⟩, eh, ew, ep⟩ := id hv
  obtain ⟨l1, l2, l3, l4, l5, l6, l7, l8⟩ := tw_len ht
  obtain ⟨⟨⟨a1, a2⟩, ⟨a3, a4⟩, ⟨a5, a6⟩, ⟨a7, a8⟩, a9⟩, wh, ww, wp⟩ := id hw
  have hnP : ((nP T : Nat) : Int) = T 0 1 := Int.toNat_of_nonneg a3
  have hnS : ((nS T : Nat) : Int) = T 0 0 := Int.toNat_of_nonneg a1
  refine bX3_craftsAlone (dwn (W := fun p => wpL (wpCall (d + 1)) mX3_craftsAlone K 6 [aR t, aI (ors (hm T) (T 3) p), aI (moreF T p), aI (p : Nat)] [] σ) (nP T) ?_ (fun p hp ih => ?_) 0 (Nat.zero_le _))
  · have hu : ∀ p, p < nP T → U8 (T 3 p) := fun p hp => (wp p (nP_lt hp)).1
    have uo : U8 (ors (hm T) (T 3) (nP T)) := U8_ors hu
    have um := (moreF_bit (T := T) (c := 0) (by omega) (nP T) hu).1
    refine bX3_craftsAlone_6 ⟨ht, fun h => absurd h (by omega), fun _ => s_bitCount (U8_andn uo um) (kq hk ?_)⟩
    unfold pop aloneN
    refine cnt_cg (fun c hc => ?_)
    rw [bit_andn uo um hc]
    have eo := bit_ors (f := hm T) (g := T 3) hc (nP T) hu
    have em := (moreF_bit (T := T) hc (nP T) hu).2
    have r := cnt_r (fun p => hm T p && bit (T 3 p) c) (nP T)
    unfold allC
    cases h1 : bit (ors (hm T) (T 3) (nP T)) c <;> cases h2 : bit (moreF T (nP T)) c <;> rw [h1] at eo <;> rw [h2] at em <;> simp at eo em ⊢ <;> omega
  · obtain ⟨c3, c4, c5, c7, c6⟩ := ep p (by omega)
    refine bX3_craftsAlone_6 ?_
    rw [Int.toNat_natCast, c7, c3]
    refine ⟨ht, fun h => ⟨ht, by omega, by omega, fun q => wq ih ?_, fun q => ⟨ht, by omega, by omega, ht, by omega, by omega, wq ih ?_⟩⟩, fun h => absurd hp (by omega)⟩
    · have q1 : hm T p = false := by simp [hm, q]
      rw [wr1 (by omega), ors_f q1, show moreF T (p + 1) = moreF T p by simp [moreF, q1]]
    · have q1 : hm T p = true := by simp [hm, q]
      rw [wr1 (by omega), ors_t q1, show moreF T (p + 1) = bOr (moreF T p) (bAnd (ors (hm T) (T 3) p) (T 3 p)) by simp [moreF, q1]]
/-- σ' has at t what σ has at o -/
def Bec (σ : Sg) (o : Nat) (σ' : Sg) (t : Nat) : Prop := (σ' t 0 = σ o 0 ∧ σ' t 3 = σ o 3 ∧ σ' t 9 = σ o 9 ∧ σ' t 10 = σ o 10 ∧ σ' t 11 = σ o 11) ∧ (∀ k : Nat, k < 5 → σ' (t + 1) k = σ (o + 1) k) ∧ (∀ k : Nat, k < 25 → σ' (t + 2) k = σ (o + 2) k) ∧ (∀ k : Nat, k < 8 → σ' (t + 3) k = σ (o + 3) k) ∧ (∀ k : Nat, k < 8 → σ' (t + 4) k = σ (o + 4) k) ∧ (∀ k : Nat, k < 8 → σ' (t + 5) k = σ (o + 5) k) ∧ (∀ k : Nat, k < 40 → σ' (t + 6) k = σ (o + 6) k) ∧ ∀ k : Nat, k < 8 → σ' (t + 7) k = σ (o + 7) k
theorem Bec.tv {σ σ' : Sg} {o t : Nat} {T : Sg} (h : Bec σ o σ' t) (ht : TW t) (hv : TV σ o T) (hw : WF T) : TV σ' t T := by
  obtain ⟨⟨b0, b3, b9, b10, b11⟩, k1, k2, k3, k4, k5, k6, k7⟩ := h
  obtain ⟨-, ⟨e0, e3, e9, e10, e11⟩, eh, ew, ep⟩ := hv
  obtain ⟨⟨⟨a1, a2⟩, ⟨a3, a4⟩, -⟩, -⟩ := hw
  refine ⟨ht, ⟨b0.trans e0, b3.trans e3, b9.trans e9, b10.trans e10, b11.trans e11⟩, fun s hs => (k1 s (by omega)).trans (eh s hs), fun a b ha hb => (k2 _ (by omega)).trans (ew a b ha hb), fun p hp => ?_⟩
  obtain ⟨c3, c4, c5, c7, c6⟩ := ep p hp
  exact ⟨(k3 p (by omega)).trans c3, (k4 p (by omega)).trans c4, (k5 p (by omega)).trans c5, (k7 p (by omega)).trans c7, fun s hs => (k6 _ (by omega)).trans (c6 s hs)⟩
theorem cpy_ne {σ : Sg} {a0 a b j : Nat} {sp dp n : Int} (h : b ≠ a) : cpy σ a0 sp a dp n b j = σ b j := by unfold cpy; rw [if_neg (fun q => h q.1)]
theorem cpy_0 {σ : Sg} {a0 a j : Nat} {n : Int} (h : (j : Int) < n) : cpy σ a0 0 a 0 n a j = σ a0 j := by
  unfold cpy
  rw [if_pos ⟨rfl, by omega, by omega⟩]
  congr 1
  omega
theorem tw_apart {t o : Nat} (ht : TW t) (ho : TW o) (h : t ≠ o) : t + 9 ≤ o ∨ o + 9 ≤ t := by
  rcases tw_cases ht with rfl | rfl | rfl | rfl | rfl <;> rcases tw_cases ho with rfl | rfl | rfl | rfl | rfl <;> omega
set_option maxHeartbeats 4000000 in
theorem s_become {d t o : Nat} {σ : Sg} {K : Kt} (ht : TW t) (ho : TW o) (hne : t ≠ o) (hk : ∀ σ', Ex [t, t + 1, t + 2, t + 3, t + 4, t + 5, t + 6, t + 7] σ σ' → Bec σ o σ' t → K 0 σ') : wpCall (d + 1) iX3_become [aR t, aR o] σ K := by
  obtain ⟨l1, l2, l3, l4, l5, l6, l7, l8⟩ := tw_len ht
  obtain ⟨m1, m2, m3, m4, m5, m6, m7, m8⟩ := tw_len ho
  have hap := tw_apart ht ho hne
  refine bX3_become ?_
  simp only [ht, ho, true_and, l1, l2, l3, l4, l5, l6, l7, m1, m2, m3, m4, m5, m6, m7]
  refine ⟨by omega, by omega, by omega, by omega, by omega, by omega, by omega, by omega, by omega, by omega, by omega, by omega, by omega, by omega, by omega, by omega, by omega, by omega, by omega, by omega, by omega, by omega, by omega, by omega, by omega, by omega, by omega, by omega, by omega, by omega, by omega, by omega, by omega, by omega, by omega, by omega, by omega, by omega, by omega, by omega, by omega, by omega, by omega, by omega, by omega, by omega, by omega, by omega, by omega, ?_⟩
  refine hk _ (fun a ha k => ?_) ⟨⟨?_, ?_, ?_, ?_, ?_⟩, fun k hk => ?_, fun k hk => ?_, fun k hk => ?_, fun k hk => ?_, fun k hk => ?_, fun k hk => ?_, fun k hk => ?_⟩
  · simp only [List.mem_cons, List.not_mem_nil, or_false, not_or] at ha
    simp (disch := omega) only [up_ne, cpy_ne]
  all_goals simp (disch := omega) only [up_self, up_nk, up_ne, cpy_ne, cpy_0]
