/-! shortest -/
def gained (W0 : Nat → Int) (T : Sg) (c : Nat) : Bool := decide (W0 (c / 10) < wNow T (c / 10))
def usedB (a : Nat → Nat) (n w : Nat) : Bool := anyI (fun i => decide (a i / 10 = w)) n 0
def ch (W0 : Nat → Int) : Nat → Nat → Sg → (Nat → Nat) → Option (Nat → Nat)
  | 0, n, T, a => if allI (fun i => gained W0 T (a i)) n 0 && lawful T then some a else none
  | k + 1, n, T, a => fsI (fun w => if usedB a n w then none else fsI (fun s => if wants T w s then ch W0 k (n + 1) (up T 7 w s) (fun i => if i = n then 10 * w + s else a i) else none) (nS T) 0) (nP T) 0
theorem anyI_iff (f : Nat → Bool) : ∀ (k i : Nat), anyI f k i = true ↔ ∃ c, i ≤ c ∧ c < i + k ∧ f c = true
  | 0, i => by simp [anyI]; omega
  | k + 1, i => by
    simp only [anyI, Bool.or_eq_true, anyI_iff f k (i + 1)]
    constructor
    · rintro (h | ⟨c, h1, h2, h3⟩)
      · exact ⟨i, by omega, by omega, h⟩
      · exact ⟨c, by omega, by omega, h3⟩
    · rintro ⟨c, h1, h2, h3⟩
      by_cases e : c = i
      · exact Or.inl (e ▸ h3)
      · exact Or.inr ⟨c, by omega, by omega, h3⟩
theorem usedB_iff {a : Nat → Nat} {n w : Nat} : usedB a n w = true ↔ ∃ i, i < n ∧ a i / 10 = w := by
  unfold usedB
  rw [anyI_iff]
  constructor
  · rintro ⟨c, -, h2, h3⟩; exact ⟨c, by omega, by simpa using h3⟩
  · rintro ⟨c, h2, h3⟩; exact ⟨c, by omega, by omega, by simpa using h3⟩
theorem usedB_add {a : Nat → Nat} {n w s v : Nat} (hs : s < 10) : usedB (fun i => if i = n then 10 * w + s else a i) (n + 1) v = (usedB a n v || decide (w = v)) := by
  rw [Bool.eq_iff_iff, Bool.or_eq_true, usedB_iff, usedB_iff, decide_eq_true_eq]
  constructor
  · rintro ⟨i, h1, h2⟩
    by_cases e : i = n
    · subst e; rw [if_pos rfl] at h2; right; omega
    · rw [if_neg e] at h2; exact Or.inl ⟨i, by omega, h2⟩
  · rintro (⟨i, h1, h2⟩ | h)
    · exact ⟨i, by omega, by rw [if_neg (by omega)]; exact h2⟩
    · exact ⟨n, by omega, by rw [if_pos rfl]; omega⟩
theorem s_haveAllGained {d n : Nat} {a : Nat → Nat} {W0 : Nat → Int} {σ T : Sg} {K : Kt} (hv : TV σ 27 T) (hw : WF T) (hn : n ≤ 3) (ha : ∀ i, i < n → σ 58 i = a i ∧ a i < 100 ∧ ((a i / 10 : Nat) : Int) < T 0 1) (hW : ∀ p : Nat, (p : Int) < T 0 1 → σ 57 p = W0 p) (h1 : allI (fun i => gained W0 T (a i)) n 0 = true → K 1 σ) (h0 : allI (fun i => gained W0 T (a i)) n 0 = false → K 0 σ) : wpCall (d + 4) iX5_haveAllGained [aR 55, aI (n : Nat)] σ K := by
  obtain ⟨ht, ⟨e0, e3, e9, e10, e11⟩, eh, ew, ep⟩ := id hv
  obtain ⟨l1, l2, l3, l4, l5, l6, l7, l8⟩ := tw_len ht
  obtain ⟨⟨⟨a1, a2⟩, ⟨a3, a4⟩, ⟨a5, a6⟩, ⟨a7, a8⟩, a9⟩, wh, ww, wp⟩ := id hw
  have hnP : ((nP T : Nat) : Int) = T 0 1 := Int.toNat_of_nonneg a3
  have hnS : ((nS T : Nat) : Int) = T 0 0 := Int.toNat_of_nonneg a1
  have l57 : LEN 57 = 8 := rfl
  have l58 : LEN 58 = 3 := rfl
  have key : ∀ k i : Nat, i + k = n → (allI (fun i => gained W0 T (a i)) k i = true → K 1 σ) → (allI (fun i => gained W0 T (a i)) k i = false → K 0 σ) → wpL (wpCall (d + 3)) mX5_haveAllGained K 2 [aR 55, aI (n : Nat), aI (i : Nat), aU] [] σ := by
    intro k
    induction k with
    | zero => exact fun i hi g1 g0 => bX5_haveAllGained_2 ⟨fun h => absurd h (by omega), fun _ => ⟨by decide, g1 rfl⟩⟩
    | succ k ih =>
      intro i hi g1 g0
      obtain ⟨c1, c2, c3⟩ := ha i (by omega)
      refine bX5_haveAllGained_2 ?_
      have e1 : wr (((a i : Nat) : Int).tdiv 10) = ((a i / 10 : Nat) : Int) := by
        have : ((a i : Nat) : Int).tdiv 10 = ((a i / 10 : Nat) : Int) := rfl
        rw [this, wr_id ⟨by omega, by omega⟩]
      rw [Int.toNat_natCast, c1, e1, Int.toNat_natCast]
      clear e1
      refine ⟨fun _ => ⟨by omega, by omega, by decide, tw27, s_worthNow hv hw c3 ⟨by omega, by omega, fun q => ?_, fun q => ⟨by decide, g0 ?_⟩⟩⟩, fun h => absurd h (by omega)⟩
      · rw [hW _ c3] at q
        have hg : gained W0 T (a i) = true := by simp [gained, q]
        rw [wr1 (by omega)]
        exact ih (i + 1) (by omega) (fun z => g1 (by show (gained W0 T (a i) && _) = true; rw [hg, z]; rfl)) (fun z => g0 (by show (gained W0 T (a i) && _) = false; rw [z]; exact Bool.and_false _))
      · rw [hW _ c3] at q
        have hg : gained W0 T (a i) = false := by simp [gained, q]
        show (gained W0 T (a i) && _) = false
        rw [hg]; rfl
  exact bX5_haveAllGained (key n 0 (by omega) h1 h0)
abbrev LGo : List Nat := [27, 28, 29, 30, 31, 32, 33, 34, 35, 58]
def NB (m : Int) (w : Nat) : Prop := bAnd (bShr m (w : Nat)) 1 = 0
theorem ix10 {w s : Nat} (hw : w < 100) (hs : s < 100) : wr (wr (10 * (w : Int)) + (s : Int)) = ((10 * w + s : Nat) : Int) := by unfold wr; push_cast; omega
theorem wcq {d mid : Nat} {as as' : List Av} {σ : Sg} {K : Kt} (h : wpCall d mid as σ K) (e : as' = as) : wpCall d mid as' σ K := e ▸ h
theorem nb_of {m : Int} {w : Nat} {n : Nat} {a : Nat → Nat} (hm : U8 m) (hw : w < 8) (hb : bit m w = usedB a n w) : (usedB a n w = true → ¬ bAnd (bShr m (w : Nat)) 1 = 0) ∧ (usedB a n w = false → NB m w) := by
  refine ⟨fun hu q => ?_, fun hu => ?_⟩
  · rw [hu] at hb
    unfold bit at hb
    rw [q] at hb
    exact absurd hb (by decide)
  · have key0 : ∀ x, x < 256 → ∀ c, c < 8 → bAnd (bShr (Int.ofNat x) (Int.ofNat c)) 1 = 0 ∨ bAnd (bShr (Int.ofNat x) (Int.ofNat c)) 1 = 1 := by decide +kernel
    obtain ⟨x, hx, rfl⟩ := U8_nat hm
    rw [hu] at hb
    have h2 : ¬ bAnd (bShr (x : Int) (w : Nat)) 1 = 1 := by simpa [bit] using hb
    rcases key0 x hx w hw with h | h
    · exact h
    · exact absurd h h2
theorem s_goOn : ∀ (k : Nat) {d n : Nat} {a : Nat → Nat} {m : Int} {W0 : Nat → Int} {σ T : Sg} {K : Kt}, TV σ 27 T → WF T → n + k ≤ 3 → (∀ i, i < n → σ 58 i = a i ∧ a i < 100 ∧ ((a i / 10 : Nat) : Int) < T 0 1) → (∀ p : Nat, (p : Int) < T 0 1 → σ 57 p = W0 p) → U8 m → (∀ w, w < 8 → bit m w = usedB a n w) →
    (∀ b, ch W0 k n T a = some b → ∀ σ', Ex LGo σ σ' → (∀ i, i < n + k → σ' 58 i = b i ∧ b i < 100) → K 1 σ') → (ch W0 k n T a = none → ∀ σ', Ex LGo σ σ' → TV σ' 27 T → (∀ i, i < n → σ' 58 i = σ 58 i) → K 0 σ') →
    wpCall (d + k + 6) iX5_goOn [aR 55, aI (n : Nat), aI ((n + k : Nat) : Int), aI m] σ K
  | 0, d, n, a, m, W0, σ, T, K, hv, hw, hnk, ha, hW, hm, hb, h1, h0 => by
    refine bX5_goOn ⟨fun h => absurd h (by omega), fun _ => s_haveAllGained hv hw (by omega) ha hW (fun q => br_f2 (by decide) ⟨tw27, s_isLawful hv hw (fun q2 σ2 he2 => br_f2 (by decide) ⟨by decide, h1 a (by simp [ch, q, q2]) σ2 (he2.mono (by simp)) (fun i hi => ?_)⟩) (fun q2 σ2 he2 => br_t2 rfl ⟨by decide, h0 (by simp [ch, q2]) σ2 (he2.mono (by simp)) (hv.ex he2 (fun i hi => by simp; omega)) (fun i hi => he2 58 (by simp) i)⟩)⟩) (fun q => br_t2 rfl ⟨by decide, h0 (by simp [ch, q]) σ Ex.rf hv (fun i hi => rfl)⟩)⟩
    exact ⟨(he2 58 (by simp) i).trans (ha i (by omega)).1, (ha i (by omega)).2.1⟩
  | k + 1, d, n, a, m, W0, σ, T, K, hv, hw, hnk, ha, hW, hm, hb, h1, h0 => by
    obtain ⟨ht, ⟨e0, e3, e9, e10, e11⟩, eh, ew, ep⟩ := id hv
    obtain ⟨l1, l2, l3, l4, l5, l6, l7, l8⟩ := tw_len ht
    obtain ⟨⟨⟨a1, a2⟩, ⟨a3, a4⟩, ⟨a5, a6⟩, ⟨a7, a8⟩, a9⟩, wh, ww, wp⟩ := id hw
    have hnP : ((nP T : Nat) : Int) = T 0 1 := Int.toNat_of_nonneg a3
    have hnS : ((nS T : Nat) : Int) = T 0 0 := Int.toNat_of_nonneg a1
    have l34 : LEN 34 = 8 := rfl
    have l58 : LEN 58 = 3 := rfl
    refine bX5_goOn ⟨fun _ => ⟨fun _ => ?_, fun h => absurd h (by omega)⟩, fun h => absurd h (by omega)⟩
    have key : ∀ j w : Nat, w + j = nP T → ∀ σ1, Ex LGo σ σ1 → TV σ1 27 T → (∀ i, i < n → σ1 58 i = σ 58 i) → (∀ x, fsI (fun w => if usedB a n w then none else fsI (fun s => if wants T w s then ch W0 k (n + 1) (up T 7 w s) (fun i => if i = n then 10 * w + s else a i) else none) (nS T) 0) j w = x → ch W0 (k + 1) n T a = x) → wpL (wpCall (d + (k + 1) + 5)) mX5_goOn K 37 [aR 55, aI (n : Nat), aI ((n + (k + 1) : Nat) : Int), aI m, aI (w : Nat), aU, aU] [] σ1 := by
      intro j
      induction j with
      | zero =>
        intro w hp σ1 he hv1 h58 g
        obtain ⟨-, ⟨f0, f3, -⟩, -⟩ := id hv1
        exact bX5_goOn_37 ⟨tw27, fun h => absurd h (by omega), fun _ => ⟨by decide, h0 (g none rfl) σ1 he hv1 h58⟩⟩
      | succ j ih =>
        intro w hp σ1 he hv1 h58 g
        obtain ⟨-, ⟨f0, f3, -⟩, -, -, fp⟩ := id hv1
        have c7 := (fp w (by omega)).2.2.2.1
        refine bX5_goOn_37 ?_
        rw [Int.toNat_natCast, c7]
        refine ⟨tw27, fun _ => ⟨tw27, by omega, by omega, ?_⟩, fun h => absurd h (by omega)⟩
        have hbw := hb w (by omega)
        by_cases hu : usedB a n w = true
        · have hb1 := (nb_of hm (by omega) hbw).1 hu
          refine bX5_goOn_64 (br_f2 hb1 ?_)
          clear hb1
          rw [wr1 (by omega)]
          refine ih (w + 1) (by omega) σ1 he hv1 h58 (fun x hx => g x ?_)
          unfold fsI
          rw [if_pos hu]
          exact hx
        have hu : usedB a n w = false := by simpa using hu
        have hb0 : NB m w := (nb_of hm (by omega) hbw).2 hu
        have ks : ∀ q s : Nat, s + q = nS T → ∀ σ2, Ex LGo σ σ2 → TV σ2 27 T → (∀ i, i < n → σ2 58 i = σ 58 i) → (∀ x, fsI (fun s => if wants T w s then ch W0 k (n + 1) (up T 7 w s) (fun i => if i = n then 10 * w + s else a i) else none) q s = x → fsI (fun s => if wants T w s then ch W0 k (n + 1) (up T 7 w s) (fun i => if i = n then 10 * w + s else a i) else none) (nS T) 0 = x) → wpL (wpCall (d + (k + 1) + 5)) mX5_goOn K 64 [aR 55, aI (n : Nat), aI ((n + (k + 1) : Nat) : Int), aI m, aI (w : Nat), aI (T 7 w), aI (s : Nat)] [] σ2 := by
          intro q
          induction q with
          | zero =>
            intro s hs σ2 he2 hv2 h582 gs
            obtain ⟨-, ⟨g0, g3, -⟩, -⟩ := id hv2
            refine bX5_goOn_64 (br_t2 hb0 ⟨tw27, fun h => absurd h (by omega), fun _ => ?_⟩)
            rw [wr1 (by omega)]
            refine ih (w + 1) (by omega) σ2 he2 hv2 h582 (fun x hx => g x ?_)
            unfold fsI
            rw [if_neg (by simp [hu]), gs none rfl]
            exact hx
          | succ q ihq =>
            intro s hs σ2 he2 hv2 h582 gs
            obtain ⟨-, ⟨g0, g3, -⟩, -, -, gp⟩ := id hv2
            refine bX5_goOn_64 (br_t2 hb0 ⟨tw27, fun _ => ⟨tw27, s_wantsToGo hv2 hw (by omega) (by omega) (fun y => br_f2 (by decide) ?_) (fun y => br_t2 rfl ?_)⟩, fun h => absurd h (by omega)⟩)
            · have hs10 : s < 10 := by omega
              have hw8 : w < 8 := by omega
              rw [Int.toNat_natCast, Int.toNat_natCast, wr1 (by omega), ix10 (by omega) (by omega)]
              have hvx : TV (up (up σ2 58 n ((10 * w + s : Nat) : Int)) 34 w s) 27 (up T 7 w s) := by
                refine TV.home (t := 27) ?_ w s
                exact hv2.ex (l := [58]) (Ex.rf.up (by simp)) (fun i hi => by simp; omega)
              have hex : Ex LGo σ (up (up σ2 58 n ((10 * w + s : Nat) : Int)) 34 w s) := (he2.up (by simp)).up (by simp)
              refine ⟨by omega, by omega, tw27, by omega, by omega, wcq (s_goOn k (d := d) (n := n + 1) (a := fun i => if i = n then 10 * w + s else a i) (W0 := W0) hvx (hw.home w (by omega)) (by omega) (fun i hi => ?_) (fun p hp => ?_) (U8_or hm (U8_bShl hw8).1) (fun c hc => ?_) (fun b hbq σ' he' hr => br_f2 (by decide) ⟨by decide, ?_⟩) (fun hbq σ' he' hv' hr => br_t2 rfl ⟨tw27, by omega, by omega, ?_⟩)) (by rw [show n + (k + 1) = n + 1 + k by omega])⟩
              · rw [up_ne (by omega), up_f (a := 7) (b := 0) (by omega)]
                by_cases e : i = n
                · subst e
                  rw [up_self, if_pos rfl]
                  exact ⟨rfl, by omega, by omega⟩
                · rw [up_nk e, if_neg e, h582 i (by omega)]
                  exact ha i (by omega)
              · rw [up_f (a := 7) (b := 0) (by omega)] at hp
                rw [up_ne (by omega), up_ne (by omega), he2 57 (by simp)]
                exact hW p hp
              · rw [bit_or hm (U8_bShl hw8).1 hc, (U8_bShl hw8).2 c hc, hb c hc, usedB_add hs10]
              · refine h1 b ?_ σ' (hex.tr he' (fun _ h => h) (fun _ h => h)) (fun i hi => hr i (by omega))
                refine g _ ?_
                unfold fsI
                rw [if_neg (by simp [hu]), gs (some b) (by unfold fsI; rw [if_pos y, hbq])]
              · have hT : TV (up σ' 34 w (T 7 w)) 27 T := by
                  have := TV.home (t := 27) hv' w (T 7 w)
                  rw [up_up, up_same] at this
                  exact this
                rw [wr1 (by omega)]
                refine ihq (s + 1) (by omega) _ ((hex.tr he' (fun _ h => h) (fun _ h => h)).up (by simp)) hT (fun i hi => ?_) (fun x hx => gs x ?_)
                · rw [up_ne (by omega), hr i (by omega), up_ne (by omega), up_nk (by omega)]
                  exact h582 i hi
                · unfold fsI
                  rw [if_pos y, hbq]
                  exact hx
            · rw [wr1 (by omega)]
              refine ihq (s + 1) (by omega) σ2 he2 hv2 h582 (fun x hx => gs x ?_)
              unfold fsI
              rw [if_neg (by simp [y])]
              exact hx
        exact ks (nS T) 0 (by omega) σ1 he hv1 h58 (fun x hx => hx)
    exact key (nP T) 0 (by omega) σ Ex.rf hv (fun i hi => rfl) (fun x hx => hx)
def shF (T : Sg) : Option (Nat × (Nat → Nat)) := fsI (fun n => (ch (wNow T) n 0 T (fun _ => 0)).map (fun a => (n, a))) 3 1
abbrev LFs : List Nat := [27, 28, 29, 30, 31, 32, 33, 34, 35, 57, 58]
theorem s_findSteps {d t : Nat} {σ T : Sg} {K : Kt} (hv : TV σ t T) (hw : WF T) (ht27 : t ≠ 27) (h1 : ∀ n a, shF T = some (n, a) → 1 ≤ n → n ≤ 3 → ∀ σ', Ex LFs σ σ' → (∀ i, i < n → σ' 58 i = a i ∧ a i < 100) → K (n : Nat) σ') (h0 : shF T = none → ∀ σ', Ex LFs σ σ' → K 0 σ') : wpCall (d + 3 + 7) iX5_findSteps [aR 55, aR t] σ K := by
  obtain ⟨ht, ⟨e0, e3, e9, e10, e11⟩, eh, ew, ep⟩ := id hv
  obtain ⟨l1, l2, l3, l4, l5, l6, l7, l8⟩ := tw_len ht
  obtain ⟨⟨⟨a1, a2⟩, ⟨a3, a4⟩, ⟨a5, a6⟩, ⟨a7, a8⟩, a9⟩, wh, ww, wp⟩ := id hw
  have hnP : ((nP T : Nat) : Int) = T 0 1 := Int.toNat_of_nonneg a3
  have hnS : ((nS T : Nat) : Int) = T 0 0 := Int.toNat_of_nonneg a1
  have l57 : LEN 57 = 8 := rfl
  have tv : ∀ {σ1}, Ex LFs σ σ1 → TV σ1 t T := fun h => hv.ex h (fun i hi => by
    rcases tw_cases ht with rfl | rfl | rfl | rfl | rfl
    all_goals simp
    all_goals omega)
  have k29 : ∀ j n : Nat, n + j = 4 → 1 ≤ n → ∀ σ1, Ex LFs σ σ1 → (∀ p : Nat, (p : Int) < T 0 1 → σ1 57 p = wNow T p) → (∀ x, fsI (fun n => (ch (wNow T) n 0 T (fun _ => 0)).map (fun a => (n, a))) j n = x → shF T = x) → wpL (wpCall (d + 3 + 6)) mX5_findSteps K 29 [aR 55, aR t, aI (n : Nat)] [] σ1 := by
    intro j
    induction j with
    | zero => exact fun n hn hn1 σ1 he hW g => bX5_findSteps_29 ⟨fun _ => h0 (g none rfl) σ1 he, fun h => absurd h (by omega)⟩
    | succ j ih =>
      intro n hn hn1 σ1 he hW g
      refine bX5_findSteps_29 ⟨fun h => absurd h (by omega), fun _ => ⟨tw27, s_become tw27 ht (Ne.symm ht27) (fun σ2 he2 hb => ?_)⟩⟩
      have hv2 := hb.tv tw27 (tv he) hw
      have he2' : Ex LFs σ σ2 := he.tr he2 (fun _ h => h) (by simp)
      have hW2 : ∀ p : Nat, (p : Int) < T 0 1 → σ2 57 p = wNow T p := fun p hp => (he2 57 (by simp) p).trans (hW p hp)
      have hgo := fun (K2 : Kt) => s_goOn n (d := d + 3 - n) (n := 0) (a := fun _ => 0) (m := 0) (W0 := wNow T) (K := K2) hv2 hw (by omega) (fun i hi => by omega) hW2 (by unfold U8; omega) (fun w hw => by rw [bit_zero hw]; rfl)
      have ed : d + 3 - n + n + 6 = d + 3 + 6 := by omega
      rw [ed] at hgo
      have ez : ((0 + n : Nat) : Int) = (n : Int) := by rw [Nat.zero_add]
      rw [ez] at hgo
      refine hgo _ (fun b hbq σ' he' hr => br_f2 (by decide) (h1 n b (g _ ?_) hn1 (by omega) σ' (he2'.tr he' (fun _ h => h) (by simp)) (fun i hi => hr i (by omega)))) (fun hbq σ' he' hv' hr => br_t2 rfl ?_)
      · unfold fsI
        rw [hbq]
        rfl
      · rw [wr1 (by omega)]
        refine ih (n + 1) (by omega) (by omega) σ' (he2'.tr he' (fun _ h => h) (by simp)) (fun p hp => (he' 57 (by simp) p).trans (hW2 p hp)) (fun x hx => g x ?_)
        unfold fsI
        rw [hbq]
        exact hx
  refine bX5_findSteps (dwn (W := fun p => ∀ σ1, Ex LFs σ σ1 → (∀ q : Nat, q < p → σ1 57 q = wNow T q) → wpL (wpCall (d + 3 + 6)) mX5_findSteps K 2 [aR 55, aR t, aI (p : Nat)] [] σ1) (nP T) (fun σ1 he hi => ?_) (fun p hp ih σ1 he hi => ?_) 0 (Nat.zero_le _) σ Ex.rf (fun q hq => by omega))
  · obtain ⟨-, ⟨f0, f3, -⟩, -⟩ := tv he
    exact bX5_findSteps_2 ⟨ht, fun h => absurd h (by omega), fun _ => k29 3 1 rfl (by omega) σ1 he (fun p hp => hi p (by omega)) (fun x hx => hx)⟩
  · obtain ⟨-, ⟨f0, f3, -⟩, -⟩ := tv he
    refine bX5_findSteps_2 ⟨ht, fun _ => ⟨ht, s_worthNow (tv he) hw (by omega) ⟨by omega, by omega, ?_⟩⟩, fun h => absurd hp (by omega)⟩
    rw [wr1 (by omega), Int.toNat_natCast]
    refine ih _ (he.up (by simp)) (fun q hq => ?_)
    by_cases e : q = p
    · subst e; rw [up_self]
    · rw [up_nk e]; exact hi q (by omega)
