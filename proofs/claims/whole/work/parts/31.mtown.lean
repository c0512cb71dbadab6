/-! THE MODEL'S ROW: small changes -/
def lv (x : Int) : Int := if x = 9 then -4 else x
theorem MV_tStr {σ T : Sg} {a : Nat} {h : Int} (hv : MV σ a T) (hx : MX σ a T) (hw : WF T) (h5 : T 0 0 < 5) : MV (up (up σ a (5 + nS T) h) a 0 (T 0 0 + 1)) a (tStr T h) ∧ MX (up (up σ a (5 + nS T) h) a 0 (T 0 0 + 1)) a (tStr T h) := by
  obtain ⟨⟨e0, e1, e2, e3, e4⟩, eh, ew, ep⟩ := id hv
  obtain ⟨⟨⟨a1, a2⟩, ⟨a3, a4⟩, ⟨a5, a6⟩, ⟨a7, a8⟩, a9⟩, wh, ww, wp⟩ := id hw
  have hnP : ((nP T : Nat) : Int) = T 0 1 := Int.toNat_of_nonneg a3
  have hnS : ((nS T : Nat) : Int) = T 0 0 := Int.toNat_of_nonneg a1
  obtain ⟨n, hn⟩ : ∃ n : Nat, nS T = n := ⟨_, rfl⟩
  have o : ∀ k, k ≠ 0 → k ≠ 5 + n → up (up σ a (5 + nS T) h) a 0 (T 0 0 + 1) a k = σ a k := fun k h1 h2 => by rw [hn, up_nk h1, up_nk h2]
  have x1 := hx.1
  have x2 := hx.2
  refine ⟨⟨⟨by rw [up_self, tStr0], by rw [o 1 (by omega) (by omega)]; exact e1, by rw [o 2 (by omega) (by omega)]; exact e2, by rw [o 3 (by omega) (by omega)]; exact e3, by rw [o 4 (by omega) (by omega)]; exact e4⟩, fun s hs => ?_, fun x y hx hy => ?_, fun p hp => ?_⟩, fun x y hx hy hxy => ?_, fun p s hp hs hs5 => ?_⟩
  · rw [tStr0] at hs
    rw [tStr1, hn, up_nk (by omega)]
    by_cases e : s = n
    · rw [e, up_self, if_pos rfl]
    · rw [up_nk (by omega), if_neg e]; exact eh s (by omega)
  · rw [tStr0] at hx hy
    rw [o _ (by omega) (by omega), tStr2 T h (by omega), hn]
    by_cases q : x = n ∨ y = n
    · rw [if_pos q]; exact x1 x y (by omega) (by omega) (by omega)
    · rw [if_neg q]; exact ew x y (by omega) (by omega)
  · rw [tStr01] at hp
    obtain ⟨b1, b2, b3, b4, b5⟩ := ep p hp
    unfold MVp
    rw [tStrp T h 3 p (by omega) (by omega), tStrp T h 4 p (by omega) (by omega), tStrp T h 5 p (by omega) (by omega), tStrp T h 7 p (by omega) (by omega), tStr0, o _ (by omega) (by omega), o _ (by omega) (by omega), o _ (by omega) (by omega), o _ (by omega) (by omega)]
    refine ⟨b1, b2, b3, b4, fun s hs => ?_⟩
    rw [o _ (by omega) (by omega), tStr6 T h (by omega), hn]
    by_cases q : s = n
    · rw [if_pos q]; exact x2 p s hp (by omega) (by omega)
    · rw [if_neg q]; exact b5 s (by omega)
  · rw [tStr0] at hxy
    rw [o _ (by omega) (by omega)]; exact x1 x y hx hy (by omega)
  · rw [tStr01] at hp
    rw [tStr0] at hs
    rw [o _ (by omega) (by omega)]; exact x2 p s hp (by omega) hs5
theorem MV_tWay {σ T : Sg} {a x y : Nat} {v : Int} (hv : MV σ a T) (hm : MX σ a T) (hw : WF T) (hx : (x : Int) < T 0 0) (hy : (y : Int) < T 0 0) : MV (up (up σ a (10 + 5 * x + y) v) a (10 + 5 * y + x) v) a (tWay T x y v) ∧ MX (up (up σ a (10 + 5 * x + y) v) a (10 + 5 * y + x) v) a (tWay T x y v) := by
  obtain ⟨⟨e0, e1, e2, e3, e4⟩, eh, ew, ep⟩ := id hv
  obtain ⟨⟨⟨a1, a2⟩, ⟨a3, a4⟩, ⟨a5, a6⟩, ⟨a7, a8⟩, a9⟩, wh, ww, wp⟩ := id hw
  have hnP : ((nP T : Nat) : Int) = T 0 1 := Int.toNat_of_nonneg a3
  have hnS : ((nS T : Nat) : Int) = T 0 0 := Int.toNat_of_nonneg a1
  have o : ∀ k, k < 10 ∨ 35 ≤ k → up (up σ a (10 + 5 * x + y) v) a (10 + 5 * y + x) v a k = σ a k := fun k h1 => by rw [up_nk (by omega), up_nk (by omega)]
  have t0 : ∀ i k, i ≠ 2 → tWay T x y v i k = T i k := fun i k hi => by unfold tWay; rw [up_ne hi, up_ne hi]
  refine ⟨⟨⟨by rw [o 0 (by omega)]; exact e0, by rw [o 1 (by omega)]; exact e1, by rw [o 2 (by omega)]; exact e2, by rw [o 3 (by omega)]; exact e3, by rw [o 4 (by omega)]; exact e4⟩, fun s hs => ?_, fun x' y' hx' hy' => ?_, fun p hp => ?_⟩, fun x' y' hx' hy' hxy => ?_, fun p s hp hs hs5 => ?_⟩
  · rw [t0 0 0 (by omega)] at hs
    rw [o _ (by omega), t0 1 s (by omega)]; exact eh s hs
  · rw [t0 0 0 (by omega)] at hx' hy'
    unfold tWay
    by_cases e : 5 * x' + y' = 5 * y + x
    · rw [show 10 + 5 * x' + y' = 10 + 5 * y + x by omega, e, up_self, up_self]
    · rw [up_nk (by omega), up_nk e]
      by_cases e2 : 5 * x' + y' = 5 * x + y
      · rw [show 10 + 5 * x' + y' = 10 + 5 * x + y by omega, e2, up_self, up_self]
      · rw [up_nk (by omega), up_nk e2]; exact ew x' y' hx' hy'
  · rw [t0 0 1 (by omega)] at hp
    obtain ⟨b1, b2, b3, b4, b5⟩ := ep p hp
    unfold MVp
    rw [t0 3 p (by omega), t0 4 p (by omega), t0 5 p (by omega), t0 7 p (by omega), t0 0 0 (by omega), o _ (by omega), o _ (by omega), o _ (by omega), o _ (by omega)]
    exact ⟨b1, b2, b3, b4, fun s hs => by rw [o _ (by omega), t0 6 _ (by omega)]; exact b5 s hs⟩
  · rw [t0 0 0 (by omega)] at hxy
    rw [up_nk (by omega), up_nk (by omega)]; exact hm.1 x' y' hx' hy' hxy
  · rw [t0 0 1 (by omega)] at hp
    rw [t0 0 0 (by omega)] at hs
    rw [o _ (by omega)]; exact hm.2 p s hp hs hs5
theorem MV_tWish {σ T : Sg} {a p s : Nat} {v : Int} (hv : MV σ a T) (hm : MX σ a T) (hw : WF T) (hp : (p : Int) < T 0 1) (hs : (s : Int) < T 0 0) : MV (up σ a (39 + 9 * p + s) v) a (tWish T p s v) ∧ MX (up σ a (39 + 9 * p + s) v) a (tWish T p s v) := by
  obtain ⟨⟨e0, e1, e2, e3, e4⟩, eh, ew, ep⟩ := id hv
  obtain ⟨⟨⟨a1, a2⟩, ⟨a3, a4⟩, ⟨a5, a6⟩, ⟨a7, a8⟩, a9⟩, wh, ww, wp⟩ := id hw
  have hnP : ((nP T : Nat) : Int) = T 0 1 := Int.toNat_of_nonneg a3
  have hnS : ((nS T : Nat) : Int) = T 0 0 := Int.toNat_of_nonneg a1
  have t0 : ∀ i k, i ≠ 6 → tWish T p s v i k = T i k := fun i k hi => by unfold tWish; rw [up_ne hi]
  refine ⟨⟨⟨by rw [up_nk (by omega)]; exact e0, by rw [up_nk (by omega)]; exact e1, by rw [up_nk (by omega)]; exact e2, by rw [up_nk (by omega)]; exact e3, by rw [up_nk (by omega)]; exact e4⟩, fun x hx => ?_, fun x y hx hy => ?_, fun q hq => ?_⟩, fun x y hx hy hxy => ?_, fun q x hq hx hx5 => ?_⟩
  · rw [t0 0 0 (by omega)] at hx
    rw [up_nk (by omega), t0 1 x (by omega)]; exact eh x hx
  · rw [t0 0 0 (by omega)] at hx hy
    rw [up_nk (by omega), t0 2 _ (by omega)]; exact ew x y hx hy
  · rw [t0 0 1 (by omega)] at hq
    obtain ⟨b1, b2, b3, b4, b5⟩ := ep q hq
    unfold MVp
    rw [t0 3 q (by omega), t0 4 q (by omega), t0 5 q (by omega), t0 7 q (by omega), t0 0 0 (by omega), up_nk (by omega), up_nk (by omega), up_nk (by omega), up_nk (by omega)]
    refine ⟨b1, b2, b3, b4, fun x hx => ?_⟩
    unfold tWish
    by_cases e : 5 * q + x = 5 * p + s
    · rw [show 39 + 9 * q + x = 39 + 9 * p + s by omega, e, up_self, up_self]
    · rw [up_nk (by omega), up_nk e]; exact b5 x hx
  · rw [t0 0 0 (by omega)] at hxy
    rw [up_nk (by omega)]; exact hm.1 x y hx hy hxy
  · rw [t0 0 1 (by omega)] at hq
    rw [t0 0 0 (by omega)] at hx
    rw [up_nk (by omega)]; exact hm.2 q x hq hx hx5
theorem MV_tLaw {σ T : Sg} {a : Nat} {x y z : Int} (hv : MV σ a T) (hm : MX σ a T) (hw : WF T) : MV (up (up (up σ a 2 x) a 3 y) a 4 z) a (tLaw T x y z) ∧ MX (up (up (up σ a 2 x) a 3 y) a 4 z) a (tLaw T x y z) := by
  obtain ⟨⟨e0, e1, e2, e3, e4⟩, eh, ew, ep⟩ := id hv
  obtain ⟨⟨⟨a1, a2⟩, ⟨a3, a4⟩, ⟨a5, a6⟩, ⟨a7, a8⟩, a9⟩, wh, ww, wp⟩ := id hw
  have hnP : ((nP T : Nat) : Int) = T 0 1 := Int.toNat_of_nonneg a3
  have hnS : ((nS T : Nat) : Int) = T 0 0 := Int.toNat_of_nonneg a1
  have o : ∀ k, k < 2 ∨ 4 < k → up (up (up σ a 2 x) a 3 y) a 4 z a k = σ a k := fun k h1 => by rw [up_nk (by omega), up_nk (by omega), up_nk (by omega)]
  refine ⟨⟨⟨by rw [o 0 (by omega)]; exact e0, by rw [o 1 (by omega)]; exact e1, by rw [up_nk (by omega), up_nk (by omega), up_self]; rfl, by rw [up_nk (by omega), up_self]; rfl, by rw [up_self]; rfl⟩, fun s hs => by rw [o _ (by omega)]; exact eh s hs, fun x y hx hy => by rw [o _ (by omega)]; exact ew x y hx hy, fun q hq => ?_⟩, fun x y hx hy hxy => by rw [o _ (by omega)]; exact hm.1 x y hx hy hxy, fun q x hq hx hx5 => by rw [o _ (by omega)]; exact hm.2 q x hq hx hx5⟩
  obtain ⟨b1, b2, b3, b4, b5⟩ := ep q hq
  exact ⟨by rw [o _ (by omega)]; exact b1, by rw [o _ (by omega)]; exact b2, by rw [o _ (by omega)]; exact b3, by rw [o _ (by omega)]; exact b4, fun s hs => by rw [o _ (by omega)]; exact b5 s hs⟩
theorem MV_tLive {σ T : Sg} {a p : Nat} {v : Int} (hv : MV σ a T) (hm : MX σ a T) (hw : WF T) (hp : (p : Int) < T 0 1) : MV (up σ a (38 + 9 * p) (lv v)) a (tLive T p v) ∧ MX (up σ a (38 + 9 * p) (lv v)) a (tLive T p v) := by
  obtain ⟨⟨e0, e1, e2, e3, e4⟩, eh, ew, ep⟩ := id hv
  obtain ⟨⟨⟨a1, a2⟩, ⟨a3, a4⟩, ⟨a5, a6⟩, ⟨a7, a8⟩, a9⟩, wh, ww, wp⟩ := id hw
  have hnP : ((nP T : Nat) : Int) = T 0 1 := Int.toNat_of_nonneg a3
  have hnS : ((nS T : Nat) : Int) = T 0 0 := Int.toNat_of_nonneg a1
  refine ⟨⟨⟨by rw [up_nk (by omega)]; exact e0, by rw [up_nk (by omega)]; exact e1, by rw [up_nk (by omega)]; exact e2, by rw [up_nk (by omega)]; exact e3, by rw [up_nk (by omega)]; exact e4⟩, fun x hx => ?_, fun x y hx hy => ?_, fun q hq => ?_⟩, fun x y hx hy hxy => ?_, fun q x hq hx hx5 => ?_⟩
  · have hx : (x : Int) < T 0 0 := hx
    rw [up_nk (by omega)]; exact eh x hx
  · have hx : (x : Int) < T 0 0 := hx
    have hy : (y : Int) < T 0 0 := hy
    rw [up_nk (by omega)]; exact ew x y hx hy
  · obtain ⟨b1, b2, b3, b4, b5⟩ := ep q hq
    refine ⟨by rw [up_nk (by omega)]; exact b1, by rw [up_nk (by omega)]; exact b2, by rw [up_nk (by omega)]; exact b3, ?_, fun x hx => ?_⟩
    · unfold tLive
      by_cases e : q = p
      · rw [e, up_self, up_self]; rfl
      · rw [up_nk (by omega), up_nk e]; exact b4
    · have hx : (x : Int) < T 0 0 := hx
      rw [up_nk (by omega)]; exact b5 x hx
  · rw [up_nk (by omega)]; exact hm.1 x y hx hy hxy
  · rw [up_nk (by omega)]; exact hm.2 q x hq hx hx5
