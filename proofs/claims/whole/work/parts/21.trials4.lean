/-! learned, lived -/
theorem u30 {T : Sg} {p : Nat} {v : Int} : up T 3 p v 0 = T 0 := up_f (by omega)
theorem TV.craft {σ : Sg} {t : Nat} {T : Sg} (hv : TV σ t T) (p : Nat) (v : Int) : TV (up σ (t + 3) p v) t (up T 3 p v) := by
  obtain ⟨ht, ⟨e0, e3, e9, e10, e11⟩, eh, ew, ep⟩ := hv
  refine ⟨ht, ⟨?_, ?_, ?_, ?_, ?_⟩, fun s hs => ?_, fun a b ha hb => ?_, fun q hq => ?_⟩
  · rw [up_ne (by omega), up_ne (by omega)]; exact e0
  · rw [up_ne (by omega), up_ne (by omega)]; exact e3
  · rw [up_ne (by omega), up_ne (by omega)]; exact e9
  · rw [up_ne (by omega), up_ne (by omega)]; exact e10
  · rw [up_ne (by omega), up_ne (by omega)]; exact e11
  · rw [up_ne (by omega)] at hs
    rw [up_ne (by omega), up_ne (by omega)]; exact eh s hs
  · rw [up_ne (by omega)] at ha hb
    rw [up_ne (by omega), up_ne (by omega)]; exact ew a b ha hb
  · rw [up_ne (by omega)] at hq
    obtain ⟨c3, c4, c5, c7, c6⟩ := ep q hq
    refine ⟨?_, ?_, ?_, ?_, fun s hs => ?_⟩
    · by_cases e : q = p
      · rw [e, up_self, up_self]
      · rw [up_nk e, up_nk e]; exact c3
    · rw [up_ne (by omega), up_ne (by omega)]; exact c4
    · rw [up_ne (by omega), up_ne (by omega)]; exact c5
    · rw [up_ne (by omega), up_ne (by omega)]; exact c7
    · rw [up_ne (by omega)] at hs
      rw [up_ne (by omega), up_ne (by omega)]; exact c6 s hs
theorem WF.craft {T : Sg} (hw : WF T) (p : Nat) {v : Int} (hv : U8 v) : WF (up T 3 p v) := by
  obtain ⟨hn, wh, ww, wp⟩ := hw
  refine ⟨?_, fun s hs => ?_, fun a b ha hb => ?_, fun q hq => ?_⟩
  · unfold WFn; rw [u30]; exact hn
  · rw [u30] at hs; rw [up_f (by omega)]; exact wh s hs
  · rw [u30] at ha hb; unfold WFw; rw [up_f (by omega)]; exact ww a b ha hb
  · rw [u30] at hq
    obtain ⟨c3, c4, c5, c7, c6⟩ := wp q hq
    unfold WFp
    rw [u30, up_f (a := 3) (b := 4) (by omega), up_f (a := 3) (b := 7) (by omega), up_f (a := 3) (b := 5) (by omega), up_f (a := 3) (b := 6) (by omega)]
    refine ⟨?_, c4, c5, c7, c6⟩
    by_cases e : q = p
    · rw [e, up_self]; exact hv
    · rw [up_nk e]; exact c3
/-- with one craft more -/
def lnT (T : Sg) (p c : Nat) : Sg := up T 3 p (bOr (T 3 p) (bShl 1 c))
def lnF (T : Sg) (p : Nat) : Nat → Nat → Int → Int → Int
  | 0, _, f, _ => f
  | k + 1, c, f, m => if bit (T 3 p) c = false ∧ m < wNow (lnT T p c) p ∧ lawH (lnT T p c) = true then lnF T p k (c + 1) c (wNow (lnT T p c) p) else lnF T p k (c + 1) f m
theorem or_same {x : Int} {c : Nat} (hx : U8 x) (hc : c < 8) : bOr x (bShl 1 c) = x ↔ bit x c = true := by
  have key : ∀ x, x < 256 → ∀ c, c < 8 → (bOr (Int.ofNat x) (bShl 1 (Int.ofNat c)) = Int.ofNat x ↔ bit (Int.ofNat x) c = true) := by decide +kernel
  obtain ⟨n, hn, rfl⟩ := U8_nat hx
  exact key n hn c hc
theorem s_bestLesson {d t p : Nat} {σ T : Sg} {K : Kt} (hv : TV σ t T) (hw : WF T) (ht27 : t ≠ 27) (hp : (p : Int) < T 0 1) (hk : ∀ σ', Ex L27 σ σ' → K (if T 7 p = 9 then -4 else lnF T p 8 0 (-4) (-1)) σ') : wpCall (d + 5) iX5_bestLesson [aR 55, aR t, aI (p : Nat)] σ K := by
  obtain ⟨ht, ⟨e0, e3, e9, e10, e11⟩, eh, ew, ep⟩ := id hv
  obtain ⟨l1, l2, l3, l4, l5, l6, l7, l8⟩ := tw_len ht
  obtain ⟨⟨⟨a1, a2⟩, ⟨a3, a4⟩, ⟨a5, a6⟩, ⟨a7, a8⟩, a9⟩, wh, ww, wp⟩ := id hw
  have hnP : ((nP T : Nat) : Int) = T 0 1 := Int.toNat_of_nonneg a3
  have hnS : ((nS T : Nat) : Int) = T 0 0 := Int.toNat_of_nonneg a1
  have l30 : LEN 30 = 8 := rfl
  refine bX5_bestLesson ?_
  rw [Int.toNat_natCast, (ep p hp).2.2.2.1]
  refine ⟨ht, by omega, by omega, fun q => kq (hk σ Ex.rf) (by rw [if_pos q]), fun q => ⟨tw27, s_become tw27 ht (Ne.symm ht27) (fun σ0 he0 hb => ?_)⟩⟩
  rw [if_neg q] at hk
  have hv0 := hb.tv tw27 hv hw
  have hvt : TV σ0 t T := hv.ex he0 (fun i hi => by
    rcases tw_cases ht with rfl | rfl | rfl | rfl | rfl
    all_goals simp
    all_goals omega)
  have u3 : U8 (T 3 p) := (wp p hp).1
  rw [(hvt.2.2.2.2 p hp).1]
  refine ⟨ht, by omega, by omega, ?_⟩
  have key : ∀ k c : Nat, c + k = 8 → ∀ (f m : Int) (σ1 : Sg) (v : Int), TV σ1 27 (up T 3 p v) → Ex L27 σ σ1 → (∀ σ', Ex L27 σ σ' → K (lnF T p k c f m) σ') → wpL (wpCall (d + 4)) mX5_bestLesson K 39 [aR 55, aU, aI (p : Nat), aI (T 3 p), aI f, aI m, aI (c : Nat), aU] [] σ1 := by
    intro k
    induction k with
    | zero => exact fun c hc f m σ1 v hv1 he g => bX5_bestLesson_39 ⟨fun h => absurd h (by omega), fun _ => g σ1 he⟩
    | succ k ih =>
      intro c hc f m σ1 v hv1 he g
      have hv2 : TV (up σ1 30 p (bOr (T 3 p) (bShl 1 c))) 27 (lnT T p c) := by
        have := TV.craft (t := 27) hv1 p (bOr (T 3 p) (bShl 1 c))
        rw [up_up] at this
        exact this
      have hw2 : WF (lnT T p c) := hw.craft p (U8_or u3 (U8_bShl (by omega)).1)
      have hp2 : (p : Int) < lnT T p c 0 1 := by unfold lnT; rw [u30]; exact hp
      have he2 : Ex L27 σ (up σ1 30 p (bOr (T 3 p) (bShl 1 c))) := he.up (by simp)
      have nxt : ∀ σ3, Ex L27 σ σ3 → TV σ3 27 (lnT T p c) → ¬ (bit (T 3 p) c = false ∧ m < wNow (lnT T p c) p ∧ lawH (lnT T p c) = true) → wpL (wpCall (d + 4)) mX5_bestLesson K 39 [aR 55, aU, aI (p : Nat), aI (T 3 p), aI f, aI m, aI (wr ((c : Int) + 1)), aU] [] σ3 := fun σ3 he3 hv3 hn => by
        rw [wr1 (by omega)]
        exact ih (c + 1) (by omega) f m σ3 _ hv3 he3 (fun σ' h' => kq (g σ' h') (by show lnF T p k (c + 1) f m = if _ then _ else _; rw [if_neg hn]))
      refine bX5_bestLesson_39 ?_
      rw [Int.toNat_natCast, up_self]
      refine ⟨fun _ => ⟨tw27, by omega, by omega, tw27, by omega, by omega, fun y => br_t2 rfl (nxt _ he2 hv2 (fun z => by rw [(or_same u3 (by omega)).mp y] at z; exact absurd z.1 (by decide))), fun y => br_f2 (by decide) ⟨tw27, s_worthNow hv2 hw2 hp2 ⟨fun y2 => ⟨tw27, s_lawHolds hv2 hw2 (fun y3 σ3 he3 => br_f2 (by decide) ⟨tw27, ?_⟩) (fun y3 σ3 he3 => br_t2 rfl ?_)⟩, fun y2 => nxt _ he2 hv2 (fun z => y2 z.2.1)⟩⟩⟩, fun h => absurd h (by omega)⟩
      · have hv3 : TV σ3 27 (lnT T p c) := hv2.ex he3 (fun i hi => by simp; omega)
        have he3' := he2.tr he3 (fun _ h => h) (by simp)
        refine s_worthNow hv3 hw2 hp2 ?_
        have hb0 : bit (T 3 p) c = false := by
          cases hh : bit (T 3 p) c with
          | true => exact absurd ((or_same u3 (by omega)).mpr hh) y
          | false => rfl
        clear y
        rw [wr1 (by omega)]
        exact ih (c + 1) (by omega) c _ σ3 _ hv3 he3' (fun σ' h' => kq (g σ' h') (by show lnF T p k (c + 1) c _ = if _ then _ else _; rw [if_pos ⟨hb0, y2, y3⟩]))
      · exact nxt σ3 (he2.tr he3 (fun _ h => h) (by simp)) (hv2.ex he3 (fun i hi => by simp; omega)) (fun z => by rw [y3] at z; exact absurd z.2.2 (by decide))
  refine key 8 0 rfl (-4) (-1) σ0 (T 3 p) ?_ (he0.mono (by simp)) hk
  rw [up_same]
  exact hv0
def lcg (z : Int) : Int := wr (wr (z * 1103515245) + 12345)
def drw (z : Int) : Int := (wr ((bAnd z 2147483647).tdiv 65536)).tmod 100
/-- one year's deaths: the draw, the town, how many went -/
def dieF (dth : Int) : Nat → Nat → Int → Sg → Int → Int × Sg × Int
  | 0, _, z, T, g => (z, T, g)
  | k + 1, p, z, T, g => if T 7 p = 9 then dieF dth k (p + 1) z T g else if drw (lcg z) < dth then dieF dth k (p + 1) (lcg z) (up T 7 p 9) (g + 1) else dieF dth k (p + 1) (lcg z) T g
theorem s_die {d : Nat} {z dth : Int} {σ T : Sg} {K : Kt} (hv : TV σ 27 T) (hw : WF T) (hg : 0 ≤ σ 55 6 ∧ σ 55 6 ≤ 1000) (hk : ∀ σ', Ex [34, 55] σ σ' → TV σ' 27 (dieF dth (nP T) 0 z T (σ 55 6)).2.1 → WF (dieF dth (nP T) 0 z T (σ 55 6)).2.1 → (dieF dth (nP T) 0 z T (σ 55 6)).2.1 0 = T 0 → σ' 55 6 = (dieF dth (nP T) 0 z T (σ 55 6)).2.2 → 0 ≤ σ' 55 6 ∧ σ' 55 6 ≤ σ 55 6 + 8 → K (dieF dth (nP T) 0 z T (σ 55 6)).1 σ') : wpCall (d + 1) iX5_die [aR 55, aI z, aI dth] σ K := by
  have a4 := hw.1.2.1
  have hnP : ((nP T : Nat) : Int) = T 0 1 := Int.toNat_of_nonneg a4.1
  have l34 : LEN 34 = 8 := rfl
  have key : ∀ k p : Nat, p + k = nP T → ∀ (z : Int) (T1 σ1 : Sg), TV σ1 27 T1 → WF T1 → T1 0 = T 0 → Ex [34, 55] σ σ1 → 0 ≤ σ1 55 6 ∧ σ1 55 6 ≤ σ 55 6 + p → (∀ σ', Ex [34, 55] σ σ' → TV σ' 27 (dieF dth k p z T1 (σ1 55 6)).2.1 → WF (dieF dth k p z T1 (σ1 55 6)).2.1 → (dieF dth k p z T1 (σ1 55 6)).2.1 0 = T 0 → σ' 55 6 = (dieF dth k p z T1 (σ1 55 6)).2.2 → 0 ≤ σ' 55 6 ∧ σ' 55 6 ≤ σ 55 6 + 8 → K (dieF dth k p z T1 (σ1 55 6)).1 σ') → wpL (wpCall d) mX5_die K 5 [aR 55, aU, aI dth, aI z, aI (p : Nat)] [] σ1 := by
    intro k
    induction k with
    | zero =>
      intro p hp z T1 σ1 hv1 hw1 hT he hgb g
      obtain ⟨-, ⟨f0, f3, -⟩, -⟩ := id hv1
      have hP1 : T1 0 1 = T 0 1 := by rw [hT]
      refine bX5_die_5 ⟨tw27, fun h => absurd h (by omega), fun _ => g σ1 he hv1 hw1 hT rfl (by omega)⟩
    | succ k ih =>
      intro p hp z T1 σ1 hv1 hw1 hT he hgb g
      obtain ⟨-, ⟨f0, f3, -⟩, -, -, fp⟩ := id hv1
      have hP1 : T1 0 1 = T 0 1 := by rw [hT]
      have c7 := (fp p (by omega)).2.2.2.1
      refine bX5_die_5 ?_
      rw [Int.toNat_natCast, c7]
      refine ⟨tw27, fun _ => ⟨tw27, by omega, by omega, fun q => ?_, fun q => ⟨by decide, by decide, fun q2 => ⟨tw27, by omega, by omega, ?_⟩, fun q2 => ?_⟩⟩, fun h => absurd h (by omega)⟩
      · rw [wr1 (by omega)]
        have e : dieF dth (k + 1) p z T1 (σ1 55 6) = dieF dth k (p + 1) z T1 (σ1 55 6) := by
          show (if _ then _ else _) = _
          rw [if_pos q]
        rw [e] at g
        exact ih (p + 1) (by omega) z T1 σ1 hv1 hw1 hT he (by push_cast; omega) g
      · have e : dieF dth (k + 1) p z T1 (σ1 55 6) = dieF dth k (p + 1) (lcg z) (up T1 7 p 9) (σ1 55 6 + 1) := by
          show (if _ then _ else _) = _
          rw [if_neg q]
          show (if drw (lcg z) < dth then _ else _) = _
          exact if_pos q2
        clear q2
        rw [wr1 (by omega), up_f (a := 34) (b := 55) (by omega), wr_id (x := σ1 55 6 + 1) ⟨by omega, by omega⟩]
        have h6 : up (up σ1 34 p 9) 55 6 (σ1 55 6 + 1) 55 6 = σ1 55 6 + 1 := up_self
        rw [e, ← h6] at g
        refine ih (p + 1) (by omega) (lcg z) (up T1 7 p 9) _ ((TV.home (t := 27) hv1 p 9).ex (l := [55]) (Ex.rf.up (by simp)) (fun i hi => by simp; omega)) (hw1.home p (Or.inl rfl)) (by rw [u70]; exact hT) ((he.up (by simp)).up (by simp)) (by rw [h6]; push_cast; omega) g
      · have e : dieF dth (k + 1) p z T1 (σ1 55 6) = dieF dth k (p + 1) (lcg z) T1 (σ1 55 6) := by
          show (if _ then _ else _) = _
          rw [if_neg q]
          show (if drw (lcg z) < dth then _ else _) = _
          exact if_neg q2
        clear q2
        rw [wr1 (by omega)]
        rw [e] at g
        exact ih (p + 1) (by omega) (lcg z) T1 σ1 hv1 hw1 hT he (by push_cast; omega) g
  exact bX5_die (key (nP T) 0 (by omega) z T σ hv hw rfl Ex.rf (by simp; omega) hk)
/-- one year's births -/
def rfF : Nat → Nat → Sg → Sg
  | 0, _, T => T
  | k + 1, p, T => rfF k (p + 1) (if T 7 p = 9 then up T 7 p (bsF T p (nS T) 0 9 (-1)) else T)
theorem bsF_r {T : Sg} {p : Nat} (hw : WF T) : ∀ k i : Nat, i + k = nS T → ∀ f m : Int, (f = 9 ∨ (0 ≤ f ∧ f < T 0 0)) → (bsF T p k i f m = 9 ∨ (0 ≤ bsF T p k i f m ∧ bsF T p k i f m < T 0 0)) := by
  intro k
  induction k with
  | zero => exact fun i hi f m h => h
  | succ k ih =>
    intro i hi f m h
    have hl := nS_lt (T := T) (p := i) (by omega)
    have e : bsF T p (k + 1) i f m = if m < wAt T p i ∧ may T p i = true then bsF T p k (i + 1) i (wAt T p i) else bsF T p k (i + 1) f m := rfl
    rw [e]
    split
    · exact ih (i + 1) (by omega) _ _ (by omega)
    · exact ih (i + 1) (by omega) _ _ h
def yrF (dth : Int) : Nat → Int → Sg → Int → (Nat → Int) → Sg × Int × (Nat → Int)
  | 0, _, T, g, w => (T, g, w)
  | k + 1, z, T, g, w => yrF dth k (dieF dth (nP T) 0 z T g).1 (rfF (nP T) 0 (dieF dth (nP T) 0 z T g).2.1) (dieF dth (nP T) 0 z T g).2.2 (fun p => w p + b2i (decide (rfF (nP T) 0 (dieF dth (nP T) 0 z T g).2.1 7 p = 9)))
theorem s_oneIf {d : Nat} {σ : Sg} {b : Int} {K : Kt} (h1 : b = 1 → K 1 σ) (h0 : b = 0 → K 0 σ) (hb : b = 0 ∨ b = 1) : wpCall (d + 1) iX6_oneIf [aI b] σ K := by
  refine bX6_oneIf ⟨fun q => h0 q, fun q => h1 (by omega)⟩
abbrev LLv : List Nat := [27, 28, 29, 30, 31, 32, 33, 34, 35, 55, 59]
theorem s_liveOn {d t n : Nat} {z dth : Int} {σ T : Sg} {K : Kt} (hv : TV σ t T) (hw : WF T) (ht27 : t ≠ 27) (hn : n ≤ 30) (hk : ∀ σ', Ex LLv σ σ' → TV σ' 27 (yrF dth n z T 0 (fun _ => 0)).1 → WF (yrF dth n z T 0 (fun _ => 0)).1 → (yrF dth n z T 0 (fun _ => 0)).1 0 = T 0 → σ' 55 6 = (yrF dth n z T 0 (fun _ => 0)).2.1 → (∀ p : Nat, (p : Int) < T 0 1 → σ' 59 p = (yrF dth n z T 0 (fun _ => 0)).2.2 p) → K 0 σ') : wpCall (d + 7) iX5_liveOn [aR 55, aR t, aI (n : Nat), aI z, aI dth] σ K := by
  have a4 := hw.1.2.1
  have hnP : ((nP T : Nat) : Int) = T 0 1 := Int.toNat_of_nonneg a4.1
  have l34 : LEN 34 = 8 := rfl
  have l59 : LEN 59 = 8 := rfl
  refine bX5_liveOn ⟨tw27, s_become tw27 hv.1 (Ne.symm ht27) (fun σ0 he0 hb => s_fill (by omega) (by omega) (fun σ1 he1 hz => ?_))⟩
  have hv0 := hb.tv tw27 hv hw
  have hv1 : TV (up σ1 55 6 0) 27 T := hv0.ex (l := [59, 55]) ((he1.mono (by simp)).up (by simp)) (fun i hi => by simp; omega)
  have heA : Ex LLv σ (up σ1 55 6 0) := (he0.tr he1 (by simp) (by simp)).up (by simp)
  have key : ∀ k y : Nat, y + k = n → ∀ (z : Int) (T1 σ1 : Sg) (g : Int) (w : Nat → Int), TV σ1 27 T1 → WF T1 → T1 0 = T 0 → Ex LLv σ σ1 → σ1 55 6 = g → (0 ≤ g ∧ g ≤ 8 * y) → (∀ p : Nat, (p : Int) < T 0 1 → σ1 59 p = w p ∧ 0 ≤ w p ∧ w p ≤ y) → (∀ σ', Ex LLv σ σ' → TV σ' 27 (yrF dth k z T1 g w).1 → WF (yrF dth k z T1 g w).1 → (yrF dth k z T1 g w).1 0 = T 0 → σ' 55 6 = (yrF dth k z T1 g w).2.1 → (∀ p : Nat, (p : Int) < T 0 1 → σ' 59 p = (yrF dth k z T1 g w).2.2 p) → K 0 σ') → wpL (wpCall (d + 6)) mX5_liveOn K 27 [aR 55, aU, aI (n : Nat), aU, aI dth, aI z, aI (y : Nat), aU] [] σ1 := by
    intro k
    induction k with
    | zero => exact fun y hy z T1 σ1 g w hv1 hw1 hT he hg hgb hwt q => bX5_liveOn_27 ⟨fun h => absurd h (by omega), fun _ => q σ1 he hv1 hw1 hT hg (fun p hp => (hwt p hp).1)⟩
    | succ k ih =>
      intro y hy z T1 σ1 g w hv1 hw1 hT he hg hgb hwt q
      have hP1 : T1 0 1 = T 0 1 := by rw [hT]
      have hnP1 : nP T1 = nP T := by unfold nP; rw [hT]
      refine bX5_liveOn_27 ⟨fun _ => s_die (T := T1) hv1 hw1 (by omega) (fun σ2 he2 hv2 hw2 hT2 hg2 hgb2 => ?_), fun h => absurd h (by omega)⟩
      rw [hg] at hv2 hw2 hT2 hg2 hgb2 ⊢
      obtain ⟨T2, hTe2⟩ : ∃ T2, T2 = (dieF dth (nP T1) 0 z T1 g).2.1 := ⟨_, rfl⟩
      rw [← hTe2] at hv2 hw2 hT2
      have hT2' : T2 0 = T 0 := hT2.trans hT
      have heB : Ex LLv σ σ2 := he.tr he2 (fun _ h => h) (by simp)
      have h59 : ∀ p : Nat, (p : Int) < T 0 1 → σ2 59 p = w p ∧ 0 ≤ w p ∧ w p ≤ y := fun p hp => ⟨(he2 59 (by simp) p).trans (hwt p hp).1, (hwt p hp).2⟩
      have k46 : ∀ j p : Nat, p + j = nP T → ∀ (T3 σ3 : Sg), TV σ3 27 T3 → WF T3 → T3 0 = T 0 → Ex LLv σ σ3 → σ3 55 6 = (dieF dth (nP T1) 0 z T1 g).2.2 → (∀ p : Nat, (p : Int) < T 0 1 → σ3 59 p = w p) → rfF j p T3 = rfF (nP T) 0 T2 → wpL (wpCall (d + 6)) mX5_liveOn K 46 [aR 55, aU, aI (n : Nat), aU, aI dth, aI (dieF dth (nP T1) 0 z T1 g).1, aI (y : Nat), aI (p : Nat)] [] σ3 := by
        intro j
        induction j with
        | zero =>
          intro p hp T3 σ3 hv3 hw3 hT3 he3 hg3 hw59 hrf
          obtain ⟨-, ⟨f0, f3, -⟩, -, -, fp⟩ := id hv3
          have hP3 : T3 0 1 = T 0 1 := by rw [hT3]
          refine bX5_liveOn_46 ⟨tw27, fun h => absurd h (by omega), fun _ => ?_⟩
          have e3 : T3 = rfF (nP T) 0 T2 := hrf
          have k101 : ∀ i p : Nat, p + i = nP T → ∀ σ4, TV σ4 27 T3 → Ex LLv σ σ4 → σ4 55 6 = (dieF dth (nP T1) 0 z T1 g).2.2 → (∀ q : Nat, (q : Int) < T 0 1 → σ4 59 q = w q + (if q < p then b2i (decide (T3 7 q = 9)) else 0)) → wpL (wpCall (d + 6)) mX5_liveOn K 101 [aR 55, aU, aI (n : Nat), aU, aI dth, aI (dieF dth (nP T1) 0 z T1 g).1, aI (y : Nat), aI (p : Nat)] [] σ4 := by
            intro i
            induction i with
            | zero =>
              intro p hp σ4 hv4 he4 hg4 hw4
              obtain ⟨-, ⟨g0, g3, -⟩, -⟩ := id hv4
              refine bX5_liveOn_101 ⟨tw27, fun h => absurd h (by omega), fun _ => ?_⟩
              rw [wr1 (by omega)]
              refine ih (y + 1) (by omega) _ T3 σ4 _ (fun p => w p + b2i (decide (T3 7 p = 9))) hv4 hw3 hT3 he4 hg4 (by push_cast; omega) (fun p hp => ?_) (fun σ' h1 h2 h3 h4 h5 h6 => ?_)
              · have hlt : p < nP T := by unfold nP; omega
                rw [hw4 p hp, if_pos (by omega)]
                have := b2i_r (decide (T3 7 p = 9))
                have := (h59 p hp).2
                refine ⟨rfl, by omega, by push_cast; omega⟩
              · have e5 : yrF dth (k + 1) z T1 g w = yrF dth k (dieF dth (nP T1) 0 z T1 g).1 T3 (dieF dth (nP T1) 0 z T1 g).2.2 (fun p => w p + b2i (decide (T3 7 p = 9))) := by
                  show yrF dth k _ (rfF (nP T1) 0 _) _ _ = _
                  rw [← hTe2, hnP1, ← e3]
                rw [← e5] at h2 h3 h4 h5 h6
                exact q σ' h1 h2 h3 h4 h5 h6
            | succ i ihi =>
              intro p hp σ4 hv4 he4 hg4 hw4
              obtain ⟨-, ⟨g0, g3, -⟩, -, -, gp⟩ := id hv4
              have c7 := (gp p (by omega)).2.2.2.1
              have hb9 := (h59 p (by omega)).2
              refine bX5_liveOn_101 ?_
              rw [Int.toNat_natCast, c7, hw4 p (by omega), if_neg (by omega), Int.add_zero]
              have fin : ∀ v : Int, v = w p + b2i (decide (T3 7 p = 9)) → wpL (wpCall (d + 6)) mX5_liveOn K 101 [aR 55, aU, aI (n : Nat), aU, aI dth, aI (dieF dth (nP T1) 0 z T1 g).1, aI (y : Nat), aI (wr ((p : Int) + 1))] [] (up σ4 59 p v) := by
                intro v hv
                rw [wr1 (by omega)]
                refine ihi (p + 1) (by omega) _ (hv4.ex (l := [59]) (Ex.rf.up (by simp)) (fun i hi => by simp; omega)) (he4.up (by simp)) (by rw [up_ne (by omega)]; exact hg4) (fun q hq => ?_)
                by_cases e : q = p
                · subst e; rw [up_self, if_pos (by omega)]; exact hv
                · rw [up_nk e, hw4 q hq]
                  have : (q < p) ↔ (q < p + 1) := by omega
                  simp only [this]
              refine ⟨tw27, fun _ => ⟨by omega, by omega, tw27, by omega, by omega, fun y9 => s_oneIf (fun _ => ⟨by omega, by omega, fin _ ?_⟩) (fun h => absurd h (by decide)) (Or.inr rfl), fun y9 => s_oneIf (fun h => absurd h (by decide)) (fun _ => ⟨by omega, by omega, fin _ ?_⟩) (Or.inl rfl)⟩, fun h => absurd h (by omega)⟩
              · rw [wr_id ⟨by omega, by omega⟩]; simp [y9, b2i]
              · rw [wr_id ⟨by omega, by omega⟩]; simp [y9, b2i]
          exact k101 (nP T) 0 (by omega) σ3 hv3 he3 hg3 (fun q hq => by rw [hw59 q hq, if_neg (by omega), Int.add_zero])
        | succ j ihj =>
          intro p hp T3 σ3 hv3 hw3 hT3 he3 hg3 hw59 hrf
          obtain ⟨-, ⟨f0, f3, -⟩, -, -, fp⟩ := id hv3
          have hP3 : T3 0 1 = T 0 1 := by rw [hT3]
          have c7 := (fp p (by omega)).2.2.2.1
          refine bX5_liveOn_46 ?_
          rw [Int.toNat_natCast, c7]
          refine ⟨tw27, fun _ => ⟨tw27, by omega, by omega, fun y9 => ⟨tw27, tw27, s_bestStreet hv3 hw3 (by omega) (fun σ4 he4 => ⟨by omega, by omega, ?_⟩)⟩, fun y9 => ?_⟩, fun h => absurd h (by omega)⟩
          · rw [wr1 (by omega)]
            have hv4 : TV σ4 27 T3 := hv3.ex he4 (fun i hi => by simp; omega)
            refine ihj (p + 1) (by omega) (up T3 7 p (bsF T3 p (nS T3) 0 9 (-1))) _ (TV.home (t := 27) hv4 p _) (hw3.home p (bsF_r hw3 _ _ (by omega) _ _ (Or.inl rfl))) (by rw [u70]; exact hT3) ((he3.tr he4 (fun _ h => h) (by simp)).up (by simp)) (by rw [up_ne (by omega), he4 55 (by simp)]; exact hg3) (fun q hq => by rw [up_ne (by omega), he4 59 (by simp)]; exact hw59 q hq) ?_
            rw [← hrf]
            show _ = rfF j (p + 1) (if _ then _ else _)
            rw [if_pos y9]
          · rw [wr1 (by omega)]
            refine ihj (p + 1) (by omega) T3 σ3 hv3 hw3 hT3 he3 hg3 hw59 ?_
            rw [← hrf]
            show _ = rfF j (p + 1) (if _ then _ else _)
            rw [if_neg y9]
      exact k46 (nP T) 0 (by omega) T2 σ2 hv2 hw2 hT2' heB hg2 (fun p hp => (h59 p hp).1) rfl
  refine key n 0 (by omega) z T _ 0 (fun _ => 0) hv1 hw rfl heA up_self (by omega) (fun p hp => ?_) hk
  rw [up_ne (by omega), hz p (by omega)]
  exact ⟨rfl, by omega, by omega⟩
