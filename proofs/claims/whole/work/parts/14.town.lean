/-! THE CLASS'S TOWN: what its methods answer -/
theorem ix5 {a b : Nat} (ha : a < 100) (hb : b < 100) : wr (wr ((a : Int) * 5) + (b : Int)) = ((5 * a + b : Nat) : Int) := by unfold wr; push_cast; omega
theorem s_bitCount {d : Nat} {σ : Sg} {x : Int} {K : Kt} (hx : U8 x) (hk : K (pop x) σ) : wpCall (d + 1) iJ_bitCount [aI x] σ K := by
  refine bJ_bitCount ?_
  obtain ⟨n, hn, rfl⟩ := U8_nat hx
  refine kq hk ?_
  have key : ∀ n, n < 256 → (fun x : Int => bAnd (wr (wr (bAnd (wr (wr (bAnd (wr (x - bAnd (bUsh x 1) 1431655765)) 858993459 + bAnd (bUsh (wr (x - bAnd (bUsh x 1) 1431655765)) 2) 858993459) + bUsh (wr (bAnd (wr (x - bAnd (bUsh x 1) 1431655765)) 858993459 + bAnd (bUsh (wr (x - bAnd (bUsh x 1) 1431655765)) 2) 858993459)) 4)) 252645135 + bUsh (bAnd (wr (wr (bAnd (wr (x - bAnd (bUsh x 1) 1431655765)) 858993459 + bAnd (bUsh (wr (x - bAnd (bUsh x 1) 1431655765)) 2) 858993459) + bUsh (wr (bAnd (wr (x - bAnd (bUsh x 1) 1431655765)) 858993459 + bAnd (bUsh (wr (x - bAnd (bUsh x 1) 1431655765)) 2) 858993459)) 4)) 252645135) 8) + bUsh (wr (bAnd (wr (wr (bAnd (wr (x - bAnd (bUsh x 1) 1431655765)) 858993459 + bAnd (bUsh (wr (x - bAnd (bUsh x 1) 1431655765)) 2) 858993459) + bUsh (wr (bAnd (wr (x - bAnd (bUsh x 1) 1431655765)) 858993459 + bAnd (bUsh (wr (x - bAnd (bUsh x 1) 1431655765)) 2) 858993459)) 4)) 252645135 + bUsh (bAnd (wr (wr (bAnd (wr (x - bAnd (bUsh x 1) 1431655765)) 858993459 + bAnd (bUsh (wr (x - bAnd (bUsh x 1) 1431655765)) 2) 858993459) + bUsh (wr (bAnd (wr (x - bAnd (bUsh x 1) 1431655765)) 858993459 + bAnd (bUsh (wr (x - bAnd (bUsh x 1) 1431655765)) 2) 858993459)) 4)) 252645135) 8)) 16)) 63) (Int.ofNat n) = pop (Int.ofNat n) := by decide +kernel
  exact key n hn
theorem s_hasStreet {d t : Nat} {σ T : Sg} {x : Int} {K : Kt} (hv : TV σ t T) (h1 : 0 ≤ x → x < T 0 0 → K 1 σ) (h0 : ¬ (0 ≤ x ∧ x < T 0 0) → K 0 σ) : wpCall (d + 1) iX3_hasStreet [aR t, aI x] σ K := by
  obtain ⟨ht, ⟨e0, e3, e9, e10, e11⟩, -⟩ := hv
  refine bX3_hasStreet ⟨fun a => ⟨by decide, h0 (by omega)⟩, fun a => ⟨ht, fun b => ⟨by decide, h1 (by omega) (by omega)⟩, fun b => ⟨by decide, h0 (by omega)⟩⟩⟩
theorem s_hasPerson {d t : Nat} {σ T : Sg} {x : Int} {K : Kt} (hv : TV σ t T) (h1 : 0 ≤ x → x < T 0 1 → K 1 σ) (h0 : ¬ (0 ≤ x ∧ x < T 0 1) → K 0 σ) : wpCall (d + 1) iX3_hasPerson [aR t, aI x] σ K := by
  obtain ⟨ht, ⟨e0, e3, e9, e10, e11⟩, -⟩ := hv
  refine bX3_hasPerson ⟨fun a => ⟨by decide, h0 (by omega)⟩, fun a => ⟨ht, fun b => ⟨by decide, h1 (by omega) (by omega)⟩, fun b => ⟨by decide, h0 (by omega)⟩⟩⟩
theorem s_hasStreetOrNowhere {d t : Nat} {σ T : Sg} {x : Int} {K : Kt} (hv : TV σ t T) (h1 : x = 9 ∨ (0 ≤ x ∧ x < T 0 0) → K 1 σ) (h0 : ¬ (x = 9 ∨ (0 ≤ x ∧ x < T 0 0)) → K 0 σ) : wpCall (d + 2) iX3_hasStreetOrNowhere [aR t, aI x] σ K := by
  refine bX3_hasStreetOrNowhere ⟨fun a => ⟨by decide, h1 (by omega)⟩, fun a => ⟨hv.1, s_hasStreet hv (fun b c => ?_) (fun b => ?_)⟩⟩
  · exact ⟨fun q => by omega, fun _ => ⟨by decide, h1 (by omega)⟩⟩
  · exact ⟨fun _ => ⟨by decide, h0 (by omega)⟩, fun q => by omega⟩
theorem s_hasRoomForStreet {d t : Nat} {σ T : Sg} {K : Kt} (hv : TV σ t T) (h1 : T 0 0 < 5 → K 1 σ) (h0 : ¬ T 0 0 < 5 → K 0 σ) : wpCall (d + 1) iX3_hasRoomForStreet [aR t] σ K := by
  obtain ⟨ht, ⟨e0, e3, e9, e10, e11⟩, -⟩ := hv
  refine bX3_hasRoomForStreet ⟨ht, fun b => ⟨by decide, h1 (by omega)⟩, fun b => ⟨by decide, h0 (by omega)⟩⟩
theorem s_hasRoomForPerson {d t : Nat} {σ T : Sg} {K : Kt} (hv : TV σ t T) (h1 : T 0 1 < 8 → K 1 σ) (h0 : ¬ T 0 1 < 8 → K 0 σ) : wpCall (d + 1) iX3_hasRoomForPerson [aR t] σ K := by
  obtain ⟨ht, ⟨e0, e3, e9, e10, e11⟩, -⟩ := hv
  refine bX3_hasRoomForPerson ⟨ht, fun b => ⟨by decide, h1 (by omega)⟩, fun b => ⟨by decide, h0 (by omega)⟩⟩
theorem s_crowdIn {d t : Nat} {σ T : Sg} {s : Int} {K : Kt} (hv : TV σ t T) (hw : WF T) (hk : K (crowd T s) σ) : wpCall (d + 1) iX3_crowdIn [aR t, aI s] σ K := by
  obtain ⟨ht, ⟨e0, e3, e9, e10, e11⟩, eh, ew, ep⟩ := id hv
  obtain ⟨l1, l2, l3, l4, l5, l6, l7, l8⟩ := tw_len ht
  obtain ⟨⟨⟨a1, a2⟩, ⟨a3, a4⟩, ⟨a5, a6⟩, ⟨a7, a8⟩, a9⟩, wh, ww, wp⟩ := id hw
  have hnP : ((nP T : Nat) : Int) = T 0 1 := Int.toNat_of_nonneg a3
  have hnS : ((nS T : Nat) : Int) = T 0 0 := Int.toNat_of_nonneg a1
  refine bX3_crowdIn (dwn (W := fun p => wpL (wpCall d) mX3_crowdIn K 4 [aR t, aI s, aI (cnt (fun p => decide (T 7 p = s)) p), aI (p : Nat)] [] σ) (nP T) ?_ (fun p hp ih => ?_) 0 (Nat.zero_le _))
  · exact bX3_crowdIn_4 ⟨ht, fun h => absurd h (by omega), fun _ => hk⟩
  · have c := (ep p (by omega)).2.2.2.1
    have r := cnt_r (fun p => decide (T 7 p = s)) p
    refine bX3_crowdIn_4 ?_
    simp only [Int.toNat_natCast, c]
    refine ⟨ht, fun h => ⟨ht, by omega, by omega, fun q => wq ih ?_, fun q => wq ih ?_⟩, fun h => absurd hp (by omega)⟩
    · rw [wr1 (by omega), cnt_t (by simp [q]), wr_id ⟨by omega, by omega⟩]
    · rw [wr1 (by omega), cnt_f (by simp [q])]
theorem s_crowdWith {d t c : Nat} {σ T : Sg} {s : Int} {K : Kt} (hv : TV σ t T) (hw : WF T) (hk : K (withC T s c) σ) : wpCall (d + 1) iX3_crowdWith [aR t, aI s, aI (c : Nat)] σ K := by
  obtain ⟨ht, ⟨e0, e3, e9, e10, e11⟩, eh, ew, ep⟩ := id hv
  obtain ⟨l1, l2, l3, l4, l5, l6, l7, l8⟩ := tw_len ht
  obtain ⟨⟨⟨a1, a2⟩, ⟨a3, a4⟩, ⟨a5, a6⟩, ⟨a7, a8⟩, a9⟩, wh, ww, wp⟩ := id hw
  have hnP : ((nP T : Nat) : Int) = T 0 1 := Int.toNat_of_nonneg a3
  have hnS : ((nS T : Nat) : Int) = T 0 0 := Int.toNat_of_nonneg a1
  refine bX3_crowdWith (dwn (W := fun p => wpL (wpCall d) mX3_crowdWith K 5 [aR t, aI s, aI (c : Nat), aI (cnt (fun p => decide (T 7 p = s) && bit (T 3 p) c) p), aI (p : Nat)] [] σ) (nP T) ?_ (fun p hp ih => ?_) 0 (Nat.zero_le _))
  · exact bX3_crowdWith_5 ⟨ht, fun h => absurd h (by omega), fun _ => hk⟩
  · have c7 := (ep p (by omega)).2.2.2.1
    have c3 := (ep p (by omega)).1
    have r := cnt_r (fun p => decide (T 7 p = s) && bit (T 3 p) c) p
    refine bX3_crowdWith_5 ?_
    simp only [Int.toNat_natCast, c7, c3]
    refine ⟨ht, fun h => ⟨ht, by omega, by omega, fun q => ⟨ht, by omega, by omega, fun q2 => wq ih ?_, fun q2 => wq ih ?_⟩, fun q => wq ih ?_⟩, fun h => absurd hp (by omega)⟩
    · rw [wr1 (by omega), cnt_t (by simp [q, bit, q2]), wr_id ⟨by omega, by omega⟩]
    · rw [wr1 (by omega), cnt_f (by simp [q, bit, q2])]
    · rw [wr1 (by omega), cnt_f (by simp [q])]
theorem s_craftsOfOthers {d t : Nat} {σ T : Sg} {s b : Int} {K : Kt} (hv : TV σ t T) (hw : WF T) (hk : K (othC T s b) σ) : wpCall (d + 1) iX3_craftsOfOthers [aR t, aI s, aI b] σ K := by
  obtain ⟨ht, ⟨e0, e3, e9, e10, e11⟩, eh, ew, ep⟩ := id hv
  obtain ⟨l1, l2, l3, l4, l5, l6, l7, l8⟩ := tw_len ht
  obtain ⟨⟨⟨a1, a2⟩, ⟨a3, a4⟩, ⟨a5, a6⟩, ⟨a7, a8⟩, a9⟩, wh, ww, wp⟩ := id hw
  have hnP : ((nP T : Nat) : Int) = T 0 1 := Int.toNat_of_nonneg a3
  have hnS : ((nS T : Nat) : Int) = T 0 0 := Int.toNat_of_nonneg a1
  refine bX3_craftsOfOthers (dwn (W := fun p => wpL (wpCall d) mX3_craftsOfOthers K 5 [aR t, aI s, aI b, aI (ors (fun p => decide (T 7 p = s) && !decide ((p : Int) = b)) (T 3) p), aI (p : Nat)] [] σ) (nP T) ?_ (fun p hp ih => ?_) 0 (Nat.zero_le _))
  · exact bX3_craftsOfOthers_5 ⟨ht, fun h => absurd h (by omega), fun _ => hk⟩
  · have c7 := (ep p (by omega)).2.2.2.1
    have c3 := (ep p (by omega)).1
    refine bX3_craftsOfOthers_5 ?_
    simp only [Int.toNat_natCast, c7, c3]
    refine ⟨ht, fun h => ⟨ht, by omega, by omega, fun q => ⟨fun q2 => wq ih ?_, fun q2 => ⟨ht, by omega, by omega, wq ih ?_⟩⟩, fun q => wq ih ?_⟩, fun h => absurd hp (by omega)⟩
    · rw [wr1 (by omega), ors_f (by simp [q2])]
    · rw [wr1 (by omega), ors_t (by simp [q, q2])]
    · rw [wr1 (by omega), ors_f (by simp [q])]
theorem s_craftsIn {d t : Nat} {σ T : Sg} {s : Int} {K : Kt} (hv : TV σ t T) (hw : WF T) (hk : K (othC T s 9) σ) : wpCall (d + 2) iX3_craftsIn [aR t, aI s] σ K :=
  bX3_craftsIn ⟨hv.1, s_craftsOfOthers hv hw hk⟩
theorem s_shownIn {d t : Nat} {σ T : Sg} {s : Int} {K : Kt} (hv : TV σ t T) (hw : WF T) (hk : K (shC T s) σ) : wpCall (d + 1) iX3_shownIn [aR t, aI s] σ K := by
  obtain ⟨ht, ⟨e0, e3, e9, e10, e11⟩, eh, ew, ep⟩ := id hv
  obtain ⟨l1, l2, l3, l4, l5, l6, l7, l8⟩ := tw_len ht
  obtain ⟨⟨⟨a1, a2⟩, ⟨a3, a4⟩, ⟨a5, a6⟩, ⟨a7, a8⟩, a9⟩, wh, ww, wp⟩ := id hw
  have hnP : ((nP T : Nat) : Int) = T 0 1 := Int.toNat_of_nonneg a3
  have hnS : ((nS T : Nat) : Int) = T 0 0 := Int.toNat_of_nonneg a1
  refine bX3_shownIn (dwn (W := fun p => wpL (wpCall d) mX3_shownIn K 4 [aR t, aI s, aI (ors (fun p => decide (T 7 p = s)) (shn T) p), aI (p : Nat)] [] σ) (nP T) ?_ (fun p hp ih => ?_) 0 (Nat.zero_le _))
  · exact bX3_shownIn_4 ⟨ht, fun h => absurd h (by omega), fun _ => hk⟩
  · obtain ⟨c3, c4, c5, c7, c6⟩ := ep p (by omega)
    refine bX3_shownIn_4 ?_
    simp only [Int.toNat_natCast, c7, c3, c4]
    refine ⟨ht, fun h => ⟨ht, by omega, by omega, fun q => ⟨ht, by omega, by omega, ht, by omega, by omega, wq ih ?_⟩, fun q => wq ih ?_⟩, fun h => absurd hp (by omega)⟩
    · rw [wr1 (by omega), ors_t (by simp [q])]; rfl
    · rw [wr1 (by omega), ors_f (by simp [q])]
theorem s_minutes {d t a b : Nat} {σ T : Sg} {K : Kt} (hv : TV σ t T) (hw : WF T) (ha : (a : Int) < T 0 0) (hb : (b : Int) < T 0 0) (hk : K (T 2 (5 * a + b)) σ) : wpCall (d + 1) iX3_minutes [aR t, aI (a : Nat), aI (b : Nat)] σ K := by
  obtain ⟨ht, ⟨e0, e3, e9, e10, e11⟩, eh, ew, ep⟩ := id hv
  obtain ⟨l1, l2, l3, l4, l5, l6, l7, l8⟩ := tw_len ht
  obtain ⟨⟨⟨a1, a2⟩, ⟨a3, a4⟩, ⟨a5, a6⟩, ⟨a7, a8⟩, a9⟩, wh, ww, wp⟩ := id hw
  have hnP : ((nP T : Nat) : Int) = T 0 1 := Int.toNat_of_nonneg a3
  have hnS : ((nS T : Nat) : Int) = T 0 0 := Int.toNat_of_nonneg a1
  refine bX3_minutes ?_
  rw [ix5 (by omega) (by omega), Int.toNat_natCast, ew a b ha hb]
  exact ⟨ht, by omega, by omega, hk⟩
theorem s_wishOf {d t p s : Nat} {σ T : Sg} {K : Kt} (hv : TV σ t T) (hw : WF T) (hp : (p : Int) < T 0 1) (hs : (s : Int) < T 0 0) (hk : K (T 6 (5 * p + s)) σ) : wpCall (d + 1) iX3_wishOf [aR t, aI (p : Nat), aI (s : Nat)] σ K := by
  obtain ⟨ht, ⟨e0, e3, e9, e10, e11⟩, eh, ew, ep⟩ := id hv
  obtain ⟨l1, l2, l3, l4, l5, l6, l7, l8⟩ := tw_len ht
  obtain ⟨⟨⟨a1, a2⟩, ⟨a3, a4⟩, ⟨a5, a6⟩, ⟨a7, a8⟩, a9⟩, wh, ww, wp⟩ := id hw
  have hnP : ((nP T : Nat) : Int) = T 0 1 := Int.toNat_of_nonneg a3
  have hnS : ((nS T : Nat) : Int) = T 0 0 := Int.toNat_of_nonneg a1
  refine bX3_wishOf ?_
  rw [ix5 (by omega) (by omega), Int.toNat_natCast, (ep p hp).2.2.2.2 s hs]
  exact ⟨ht, by omega, by omega, hk⟩
theorem nP_lt {T : Sg} {p : Nat} (h : p < nP T) : (p : Int) < T 0 1 := by unfold nP at h; omega
theorem nS_lt {T : Sg} {p : Nat} (h : p < nS T) : (p : Int) < T 0 0 := by unfold nS at h; omega
theorem U8_oth {T : Sg} {s b : Int} (hw : WF T) : U8 (othC T s b) := U8_ors (fun p hp => (hw.2.2.2 p (nP_lt hp)).1)
theorem pop_r (x : Int) : 0 ≤ pop x ∧ pop x ≤ 8 := cnt_r (bit x) 8
theorem wAt_r {T : Sg} {p s : Nat} (hw : WF T) (hp : (p : Int) < T 0 1) (hs : (s : Int) < T 0 0) : 0 ≤ wAt T p s ∧ wAt T p s ≤ 123 := by
  have h1 := (hw.2.2.2 p hp).2.2.2.2 s hs
  have h2 := pop_r (bAnd (T 3 p) (bXor (othC T s p) (-1)))
  unfold wAt
  omega
theorem s_worthAt {d t p s : Nat} {σ T : Sg} {K : Kt} (hv : TV σ t T) (hw : WF T) (hp : (p : Int) < T 0 1) (hs : (s : Int) < T 0 0) (hk : K (wAt T p s) σ) : wpCall (d + 2) iX3_worthAt [aR t, aI (p : Nat), aI (s : Nat)] σ K := by
  obtain ⟨ht, ⟨e0, e3, e9, e10, e11⟩, eh, ew, ep⟩ := id hv
  obtain ⟨l1, l2, l3, l4, l5, l6, l7, l8⟩ := tw_len ht
  obtain ⟨⟨⟨a1, a2⟩, ⟨a3, a4⟩, ⟨a5, a6⟩, ⟨a7, a8⟩, a9⟩, wh, ww, wp⟩ := id hw
  have hnP : ((nP T : Nat) : Int) = T 0 1 := Int.toNat_of_nonneg a3
  have hnS : ((nS T : Nat) : Int) = T 0 0 := Int.toNat_of_nonneg a1
  have hu : U8 (bAnd (T 3 p) (bXor (othC T s p) (-1))) := U8_andn (wp p hp).1 (U8_oth hw)
  have h1 := (wp p hp).2.2.2.2 s hs
  have h2 := pop_r (bAnd (T 3 p) (bXor (othC T s p) (-1)))
  refine bX3_worthAt ⟨ht, by omega, by omega, ht, s_craftsOfOthers hv hw ⟨ht, s_wishOf hv hw hp hs ?_⟩⟩
  rw [Int.toNat_natCast, (ep p hp).1]
  refine s_bitCount hu (kq hk ?_)
  unfold wAt
  rw [wr_id ⟨by rw [wr_id ⟨by omega, by omega⟩]; omega, by rw [wr_id ⟨by omega, by omega⟩]; omega⟩, wr_id ⟨by omega, by omega⟩]
theorem s_worthNow {d t p : Nat} {σ T : Sg} {K : Kt} (hv : TV σ t T) (hw : WF T) (hp : (p : Int) < T 0 1) (hk : K (wNow T p) σ) : wpCall (d + 3) iX3_worthNow [aR t, aI (p : Nat)] σ K := by
  obtain ⟨ht, ⟨e0, e3, e9, e10, e11⟩, eh, ew, ep⟩ := id hv
  obtain ⟨l1, l2, l3, l4, l5, l6, l7, l8⟩ := tw_len ht
  obtain ⟨⟨⟨a1, a2⟩, ⟨a3, a4⟩, ⟨a5, a6⟩, ⟨a7, a8⟩, a9⟩, wh, ww, wp⟩ := id hw
  have hnP : ((nP T : Nat) : Int) = T 0 1 := Int.toNat_of_nonneg a3
  have hnS : ((nS T : Nat) : Int) = T 0 0 := Int.toNat_of_nonneg a1
  refine bX3_worthNow ?_
  rw [Int.toNat_natCast, (ep p hp).2.2.2.1]
  refine ⟨ht, by omega, by omega, fun q => ?_, fun q => ⟨ht, by omega, by omega, ht, ?_⟩⟩
  · unfold wNow at hk; rw [if_pos q] at hk; exact hk
  · unfold wNow at hk; rw [if_neg q] at hk
    obtain ⟨s, hs⟩ : ∃ s : Nat, T 7 p = s := ⟨(T 7 p).toNat, by have := (wp p hp).2.2.2.1; omega⟩
    rw [hs] at hk ⊢
    rw [Int.toNat_natCast] at hk
    exact s_worthAt hv hw hp (by have := (wp p hp).2.2.2.1; omega) hk
theorem wNow_r {T : Sg} {p : Nat} (hw : WF T) (hp : (p : Int) < T 0 1) : 0 ≤ wNow T p ∧ wNow T p ≤ 123 := by
  unfold wNow
  split
  · omega
  · have := (hw.2.2.2 p hp).2.2.2.1
    exact wAt_r hw hp (by omega)
theorem sumN_r {g : Nat → Int} {b : Int} (hb : 0 ≤ b) : ∀ (n : Nat), (∀ p, p < n → 0 ≤ g p ∧ g p ≤ b) → 0 ≤ sumN g n ∧ sumN g n ≤ b * n
  | 0, _ => by simp [sumN]
  | n + 1, h => by
    have e := sumN_r hb n (fun p hp => h p (by omega))
    have e2 := h n (by omega)
    simp only [sumN]
    have e3 : b * ((n + 1 : Nat) : Int) = b * n + b := by push_cast; rw [Int.mul_add, Int.mul_one]
    omega
theorem s_worthOfAll {d t : Nat} {σ T : Sg} {K : Kt} (hv : TV σ t T) (hw : WF T) (hk : K (wSum T) σ) : wpCall (d + 4) iX3_worthOfAll [aR t] σ K := by
  obtain ⟨ht, ⟨e0, e3, e9, e10, e11⟩, eh, ew, ep⟩ := id hv
  obtain ⟨l1, l2, l3, l4, l5, l6, l7, l8⟩ := tw_len ht
  obtain ⟨⟨⟨a1, a2⟩, ⟨a3, a4⟩, ⟨a5, a6⟩, ⟨a7, a8⟩, a9⟩, wh, ww, wp⟩ := id hw
  have hnP : ((nP T : Nat) : Int) = T 0 1 := Int.toNat_of_nonneg a3
  have hnS : ((nS T : Nat) : Int) = T 0 0 := Int.toNat_of_nonneg a1
  refine bX3_worthOfAll (dwn (W := fun p => wpL (wpCall (d + 3)) mX3_worthOfAll K 4 [aR t, aI (sumN (wNow T) p), aI (p : Nat)] [] σ) (nP T) ?_ (fun p hp ih => ?_) 0 (Nat.zero_le _))
  · exact bX3_worthOfAll_4 ⟨ht, fun h => absurd h (by omega), fun _ => hk⟩
  · have r := sumN_r (g := wNow T) (b := 123) (by omega) p (fun q hq => wNow_r hw (by omega))
    have r2 := wNow_r hw (p := p) (by omega)
    refine bX3_worthOfAll_4 ⟨ht, fun h => ⟨ht, s_worthNow hv hw (by omega) (wq ih ?_)⟩, fun h => absurd hp (by omega)⟩
    rw [wr1 (by omega), wr_id ⟨by omega, by omega⟩]
    rfl
theorem s_countTogether {d t a b : Nat} {σ T : Sg} {K : Kt} (hv : TV σ t T) (hw : WF T) (ha : (a : Int) < T 0 0) (hb : (b : Int) < T 0 0) (h1 : tog T a b = true → K 1 σ) (h0 : tog T a b = false → K 0 σ) : wpCall (d + 1) iX3_countTogether [aR t, aI (a : Nat), aI (b : Nat)] σ K := by
  obtain ⟨ht, ⟨e0, e3, e9, e10, e11⟩, eh, ew, ep⟩ := id hv
  obtain ⟨l1, l2, l3, l4, l5, l6, l7, l8⟩ := tw_len ht
  obtain ⟨⟨⟨a1, a2⟩, ⟨a3, a4⟩, ⟨a5, a6⟩, ⟨a7, a8⟩, a9⟩, wh, ww, wp⟩ := id hw
  have hnP : ((nP T : Nat) : Int) = T 0 1 := Int.toNat_of_nonneg a3
  have hnS : ((nS T : Nat) : Int) = T 0 0 := Int.toNat_of_nonneg a1
  refine bX3_countTogether ?_
  rw [ix5 (by omega) (by omega), Int.toNat_natCast, ew a b ha hb, e10]
  refine ⟨fun q => ⟨by decide, h1 (by simp [tog]; omega)⟩, fun q => ⟨ht, by omega, by omega, ht, fun q2 => ⟨by decide, h1 (by simp [tog, q2])⟩, fun q2 => ⟨by decide, h0 (by simp [tog]; omega)⟩⟩⟩
theorem s_tiesHold {d t : Nat} {σ T : Sg} {K : Kt} (hv : TV σ t T) (hw : WF T) (h1 : ties T = true → K 1 σ) (h0 : ties T = false → K 0 σ) : wpCall (d + 1) iX3_tiesHold [aR t] σ K := by
  obtain ⟨ht, ⟨e0, e3, e9, e10, e11⟩, eh, ew, ep⟩ := id hv
  obtain ⟨l1, l2, l3, l4, l5, l6, l7, l8⟩ := tw_len ht
  obtain ⟨⟨⟨a1, a2⟩, ⟨a3, a4⟩, ⟨a5, a6⟩, ⟨a7, a8⟩, a9⟩, wh, ww, wp⟩ := id hw
  have hnP : ((nP T : Nat) : Int) = T 0 1 := Int.toNat_of_nonneg a3
  have hnS : ((nS T : Nat) : Int) = T 0 0 := Int.toNat_of_nonneg a1
  have key : ∀ k p : Nat, p + k = nP T → (allI (tieOK T) k p = true → K 1 σ) → (allI (tieOK T) k p = false → K 0 σ) → wpL (wpCall d) mX3_tiesHold K 2 [aR t, aI (p : Nat), aU] [] σ := by
    intro k
    induction k with
    | zero => exact fun p hp g1 g0 => bX3_tiesHold_2 ⟨ht, fun h => absurd h (by omega), fun _ => ⟨by decide, g1 rfl⟩⟩
    | succ k ih =>
      intro p hp g1 g0
      obtain ⟨c3, c4, c5, c7, c6⟩ := ep p (by omega)
      have w := (wp p (by omega)).2.2.1
      have next : tieOK T p = true → wpL (wpCall d) mX3_tiesHold K 2 [aR t, aI (wr ((p : Int) + 1)), aU] [] σ := fun q => by
        rw [wr1 (by omega)]
        exact ih (p + 1) (by omega) (fun z => g1 (by simp [allI, q, z])) (fun z => g0 (by simp [allI, q, z]))
      refine bX3_tiesHold_2 ?_
      simp only [Int.toNat_natCast, c5, c7]
      refine ⟨ht, fun h => ⟨ht, by omega, by omega, fun q => next (by simp [tieOK, q]), fun q => ?_⟩, fun h => absurd h (by omega)⟩
      have c7b := (ep (T 5 p).toNat (by omega)).2.2.2.1
      rw [c7b]
      refine ⟨ht, by omega, by omega, ht, by omega, by omega, fun q2 => next (by simp [tieOK, q2]), fun q2 => ⟨ht, by omega, by omega, fun q3 => next (by simp [tieOK, q3]), fun q3 => ⟨ht, by omega, by omega, fun q4 => next (by simp [tieOK, q4]), fun q4 => ⟨by decide, g0 ?_⟩⟩⟩⟩
      have : tieOK T p = false := by simp [tieOK, q, q2, q3, q4]
      simp [allI, this]
  exact bX3_tiesHold (key (nP T) 0 (by omega) h1 h0)
theorem s_allHouses {d t : Nat} {σ T : Sg} {K : Kt} (hv : TV σ t T) (hw : WF T) (hk : K (sumN (T 1) (nS T)) σ) : wpCall (d + 1) iX3_allHouses [aR t] σ K := by
  obtain ⟨ht, ⟨e0, e3, e9, e10, e11⟩, eh, ew, ep⟩ := id hv
  obtain ⟨l1, l2, l3, l4, l5, l6, l7, l8⟩ := tw_len ht
  obtain ⟨⟨⟨a1, a2⟩, ⟨a3, a4⟩, ⟨a5, a6⟩, ⟨a7, a8⟩, a9⟩, wh, ww, wp⟩ := id hw
  have hnP : ((nP T : Nat) : Int) = T 0 1 := Int.toNat_of_nonneg a3
  have hnS : ((nS T : Nat) : Int) = T 0 0 := Int.toNat_of_nonneg a1
  refine bX3_allHouses (dwn (W := fun p => wpL (wpCall d) mX3_allHouses K 4 [aR t, aI (sumN (T 1) p), aI (p : Nat)] [] σ) (nS T) ?_ (fun p hp ih => ?_) 0 (Nat.zero_le _))
  · exact bX3_allHouses_4 ⟨ht, fun h => absurd h (by omega), fun _ => hk⟩
  · have r := sumN_r (g := T 1) (b := 4) (by omega) p (fun q hq => by have := wh q (by omega); omega)
    have r2 := wh p (by omega)
    refine bX3_allHouses_4 ?_
    rw [Int.toNat_natCast, eh p (by omega)]
    refine ⟨ht, fun h => ⟨ht, by omega, by omega, wq ih ?_⟩, fun h => absurd hp (by omega)⟩
    rw [wr1 (by omega), wr_id ⟨by omega, by omega⟩]
    rfl
theorem s_tiedPeople {d t : Nat} {σ T : Sg} {K : Kt} (hv : TV σ t T) (hw : WF T) (hk : K (cnt (fun p => !decide (T 5 p = -4)) (nP T)) σ) : wpCall (d + 1) iX3_tiedPeople [aR t] σ K := by
  obtain ⟨ht, ⟨e0, e3, e9, e10, e11⟩, eh, ew, ep⟩ := id hv
  obtain ⟨l1, l2, l3, l4, l5, l6, l7, l8⟩ := tw_len ht
  obtain ⟨⟨⟨a1, a2⟩, ⟨a3, a4⟩, ⟨a5, a6⟩, ⟨a7, a8⟩, a9⟩, wh, ww, wp⟩ := id hw
  have hnP : ((nP T : Nat) : Int) = T 0 1 := Int.toNat_of_nonneg a3
  have hnS : ((nS T : Nat) : Int) = T 0 0 := Int.toNat_of_nonneg a1
  refine bX3_tiedPeople (dwn (W := fun p => wpL (wpCall d) mX3_tiedPeople K 4 [aR t, aI (cnt (fun p => !decide (T 5 p = -4)) p), aI (p : Nat)] [] σ) (nP T) ?_ (fun p hp ih => ?_) 0 (Nat.zero_le _))
  · exact bX3_tiedPeople_4 ⟨ht, fun h => absurd h (by omega), fun _ => hk⟩
  · have r := cnt_r (fun p => !decide (T 5 p = -4)) p
    refine bX3_tiedPeople_4 ?_
    rw [Int.toNat_natCast, (ep p (by omega)).2.2.1]
    refine ⟨ht, fun h => ⟨ht, by omega, by omega, fun q => wq ih ?_, fun q => wq ih ?_⟩, fun h => absurd hp (by omega)⟩
    · rw [wr1 (by omega), cnt_f (by simp [q])]
    · rw [wr1 (by omega), cnt_t (by simp [q]), wr_id ⟨by omega, by omega⟩]
theorem s_hidingPeople {d t : Nat} {σ T : Sg} {K : Kt} (hv : TV σ t T) (hw : WF T) (hk : K (cnt (fun p => !decide (T 4 p = 0)) (nP T)) σ) : wpCall (d + 1) iX3_hidingPeople [aR t] σ K := by
  obtain ⟨ht, ⟨e0, e3, e9, e10, e11⟩, eh, ew, ep⟩ := id hv
  obtain ⟨l1, l2, l3, l4, l5, l6, l7, l8⟩ := tw_len ht
  obtain ⟨⟨⟨a1, a2⟩, ⟨a3, a4⟩, ⟨a5, a6⟩, ⟨a7, a8⟩, a9⟩, wh, ww, wp⟩ := id hw
  have hnP : ((nP T : Nat) : Int) = T 0 1 := Int.toNat_of_nonneg a3
  have hnS : ((nS T : Nat) : Int) = T 0 0 := Int.toNat_of_nonneg a1
  refine bX3_hidingPeople (dwn (W := fun p => wpL (wpCall d) mX3_hidingPeople K 4 [aR t, aI (cnt (fun p => !decide (T 4 p = 0)) p), aI (p : Nat)] [] σ) (nP T) ?_ (fun p hp ih => ?_) 0 (Nat.zero_le _))
  · exact bX3_hidingPeople_4 ⟨ht, fun h => absurd h (by omega), fun _ => hk⟩
  · have r := cnt_r (fun p => !decide (T 4 p = 0)) p
    refine bX3_hidingPeople_4 ?_
    rw [Int.toNat_natCast, (ep p (by omega)).2.1]
    refine ⟨ht, fun h => ⟨ht, by omega, by omega, fun q => wq ih ?_, fun q => wq ih ?_⟩, fun h => absurd hp (by omega)⟩
    · rw [wr1 (by omega), cnt_f (by simp [q])]
    · rw [wr1 (by omega), cnt_t (by simp [q]), wr_id ⟨by omega, by omega⟩]
