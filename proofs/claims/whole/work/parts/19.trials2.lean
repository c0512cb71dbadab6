/-! judged, found, shortest, learned, lived -/
theorem U8_bShl {w : Nat} (h : w < 8) : U8 (bShl 1 w) ∧ ∀ c, c < 8 → bit (bShl 1 w) c = decide (w = c) := by
  have key : ∀ w, w < 8 → (0 ≤ bShl 1 (Int.ofNat w) ∧ bShl 1 (Int.ofNat w) ≤ 255) ∧ ∀ c, c < 8 → bit (bShl 1 (Int.ofNat w)) c = decide (w = c) := by decide +kernel
  exact key w h
theorem u70 {T : Sg} {p : Nat} {v : Int} : up T 7 p v 0 = T 0 := up_f (by omega)
theorem othC_home {T : Sg} {w : Nat} {s x : Int} : othC (up T 7 w x) s w = othC T s w := by
  unfold othC nP
  rw [u70, up_f (a := 7) (b := 3) (by omega)]
  refine ors_cg _ (fun p hp => ⟨?_, fun _ => rfl⟩)
  by_cases e : p = w
  · subst e; simp
  · rw [up_nk e]
theorem wAt_home {T : Sg} {w s : Nat} {x : Int} : wAt (up T 7 w x) w s = wAt T w s := by
  unfold wAt
  rw [othC_home, up_f (a := 7) (b := 3) (by omega), up_f (a := 7) (b := 6) (by omega)]
theorem wNow_home {T : Sg} {w s : Nat} (hs : s < 9) : wNow (up T 7 w s) w = wAt T w s := by
  unfold wNow
  rw [up_self, if_neg (by omega), Int.toNat_natCast, wAt_home]
theorem allI_iff (f : Nat → Bool) : ∀ (k i : Nat), allI f k i = true ↔ ∀ c, i ≤ c → c < i + k → f c = true
  | 0, i => by simp [allI]; omega
  | k + 1, i => by
    simp only [allI, Bool.and_eq_true, allI_iff f k (i + 1)]
    constructor
    · rintro ⟨h1, h2⟩ c h3 h4
      by_cases e : c = i
      · rw [e]; exact h1
      · exact h2 c (by omega) (by omega)
    · intro h
      exact ⟨h i (by omega) (by omega), fun c h1 h2 => h c (by omega) (by omega)⟩
theorem cnt_pos {f : Nat → Bool} : ∀ {n : Nat}, 0 < cnt f n ↔ ∃ p, p < n ∧ f p = true
  | 0 => by simp [cnt]
  | n + 1 => by
    have r := cnt_r f n
    have ih := cnt_pos (f := f) (n := n)
    by_cases q : f n = true
    · rw [cnt_t q]
      constructor
      · intro _; exact ⟨n, by omega, q⟩
      · intro _; omega
    · rw [cnt_f (by simpa using q), ih]
      constructor
      · rintro ⟨p, h1, h2⟩; exact ⟨p, by omega, h2⟩
      · rintro ⟨p, h1, h2⟩
        by_cases e : p = n
        · subst e; exact absurd h2 q
        · exact ⟨p, by omega, h2⟩
/-- a ONE is wanted just if one wants to go -/
theorem wnt_one {T : Sg} {w s : Nat} (hw : (w : Int) < T 0 1) (hs : s < 9) : wnt T (up T 7 w s) true = wants T w s := by
  have hwn : w < nP T := by unfold nP; omega
  unfold wnt wants nP
  rw [u70]
  have hm : ∀ p, mvd T (up T 7 w s) p = (decide (p = w) && !decide (T 7 w = s)) := by
    intro p
    unfold mvd
    by_cases e : p = w
    · subst e; rw [up_self]; simp [eq_comm]
    · rw [up_nk e]; simp [e]
  by_cases h : T 7 w = s
  · have : ¬ 0 < cnt (mvd T (up T 7 w s)) (T 0 1).toNat := by
      rw [cnt_pos]
      rintro ⟨p, -, h2⟩
      rw [hm] at h2
      simp [h] at h2
    simp [h, this]
  · have h1 : 0 < cnt (mvd T (up T 7 w s)) (T 0 1).toNat := by
      rw [cnt_pos]
      exact ⟨w, hwn, by rw [hm]; simp [h]⟩
    have h2 : allI (gainOK T (up T 7 w s) true) (T 0 1).toNat 0 = decide (wNow T w < wAt T w s) := by
      rw [Bool.eq_iff_iff, allI_iff]
      simp only [decide_eq_true_eq]
      constructor
      · intro g
        have := g w (by omega) (by unfold nP at hwn; omega)
        unfold gainOK at this
        rw [hm, wNow_home hs] at this
        simpa [h] using this
      · intro g p _ hp
        unfold gainOK
        rw [hm]
        by_cases e : p = w
        · subst e
          rw [wNow_home hs]
          simp [g]
        · simp [e]
    rw [h2]
    simp [h, h1]
/-! judged -/
def jdF (b : Nat → Int) (n : Nat) : Nat → Sg → Nat → Int
  | 0, _, _ => 0
  | k + 1, T, i => if i + 1 < n then
      (if (0 ≤ b i ∧ b i < T 0 1) ∧ (b (i + 1) = 9 ∨ (0 ≤ b (i + 1) ∧ b (i + 1) < T 0 0)) then
        (if (b (i + 1) = 9 ∨ wants T (b i).toNat (b (i + 1)).toNat = true) ∧ lawful (up T 7 (b i).toNat (b (i + 1))) = true then jdF b n k (up T 7 (b i).toNat (b (i + 1))) (i + 2) else (i : Int))
       else (i : Int))
    else if n % 2 = 1 then (n : Int) else -4
theorem jdF_s (b : Nat → Int) (n k : Nat) (T : Sg) (i : Nat) : jdF b n (k + 1) T i = if i + 1 < n then (if (0 ≤ b i ∧ b i < T 0 1) ∧ (b (i + 1) = 9 ∨ (0 ≤ b (i + 1) ∧ b (i + 1) < T 0 0)) then (if (b (i + 1) = 9 ∨ wants T (b i).toNat (b (i + 1)).toNat = true) ∧ lawful (up T 7 (b i).toNat (b (i + 1))) = true then jdF b n k (up T 7 (b i).toNat (b (i + 1))) (i + 2) else (i : Int)) else (i : Int)) else if n % 2 = 1 then (n : Int) else -4 := rfl
theorem wr2 {p : Nat} (h : p < 100000) : wr ((p : Int) + 2) = ((p + 2 : Nat) : Int) := by unfold wr; push_cast; omega
theorem shf_r {h : Nat} (q : SHF h) : 61 ≤ h ∧ h + 2 < 108 ∧ LEN (h + 2) = 100 ∧ MVE (h + 1) := by
  have h0 : CLS h = 2 := q
  have hl : h < 108 := CLS_lt (by omega)
  have key : ∀ h, h < 108 → CLS h = 2 → 61 ≤ h ∧ h + 2 < 108 ∧ LEN (h + 2) = 100 ∧ CLS (h + 1) = 0 := by decide +kernel
  exact key h hl h0
theorem s_firstMisjudged {d t h n : Nat} {σ T : Sg} {K : Kt} (hv : TV σ t T) (hw : WF T) (ht27 : t ≠ 27) (hh : SHF h) (hn : σ h 3 = n) (hn2 : n ≤ 100) (hk : ∀ σ', Ex L27 σ σ' → K (jdF (σ (h + 2)) n (n + 1) T 0) σ') : wpCall (d + 6) iX5_firstMisjudged [aR 55, aR t, aR h] σ K := by
  obtain ⟨r1, r2, r3, -⟩ := shf_r hh
  refine bX5_firstMisjudged ⟨tw27, s_become tw27 hv.1 (Ne.symm ht27) (fun σ0 he0 hb => ?_)⟩
  have key : ∀ k i : Nat, n < i + k → i ≤ n → ∀ (T1 : Sg) (σ1 : Sg), TV σ1 27 T1 → WF T1 → Ex L27 σ σ1 → (∀ σ', Ex L27 σ σ' → K (jdF (σ (h + 2)) n k T1 i) σ') → wpL (wpCall (d + 5)) mX5_firstMisjudged K 10 [aR 55, aU, aR h, aI (i : Nat), aU, aU] [] σ1 := by
    intro k
    induction k with
    | zero => intro i h1 h2; omega
    | succ k ih =>
      intro i h1 h2 T1 σ1 hv1 hw1 he g
      have eh : ∀ a, a = h ∨ a = h + 2 → ∀ j, σ1 a j = σ a j := fun a ha j => he a (by simp; omega) j
      refine bX5_firstMisjudged_10 ?_
      rw [wr1 (by omega), eh h (Or.inl rfl), hn, Int.toNat_natCast, Int.toNat_natCast, eh (h + 2) (Or.inr rfl), eh (h + 2) (Or.inr rfl)]
      refine ⟨hh, fun q => ⟨hh, by omega, by omega, hh, by omega, by omega, tw27, s_hasPerson hv1 (fun p1 p2 => br_f2 (by decide) ⟨tw27, s_hasStreetOrNowhere hv1 (fun q1 => br_f2 (by decide) ?_) (fun q1 => br_t2 rfl (kq (g σ1 he) ?_))⟩) (fun p1 => br_t2 rfl (kq (g σ1 he) ?_))⟩, fun q => ⟨hh, by decide, ?_⟩⟩
      · obtain ⟨w, hwq⟩ : ∃ w : Nat, σ (h + 2) i = w := ⟨(σ (h + 2) i).toNat, by omega⟩
        have go : ∀ (hx : σ (h + 2) (i + 1) = 9 ∨ wants T1 w (σ (h + 2) (i + 1)).toNat = true) (σ2 : Sg), σ2 = σ1 → TW 27 ∧ 0 ≤ (w : Int) ∧ (w : Int) < LEN 34 ∧ TW 27 ∧ wpCall (d + 5) iX3_isLawful [aR 27] (up σ2 34 w (σ (h + 2) (i + 1))) (fun r5 s5 => (r5 = 0 → K i s5) ∧ (¬ r5 = 0 → wpL (wpCall (d + 5)) mX5_firstMisjudged K 10 [aR 55, aU, aR h, aI (wr ((i : Int) + 2)), aU, aU] [] s5)) := by
          intro hx σ2 e2
          subst e2
          have a4 := hw1.1.2.1.2
          have l34 : LEN 34 = 8 := rfl
          have heq : Ex L27 σ (up σ2 34 w (σ (h + 2) (i + 1))) := he.up (by simp)
          refine ⟨tw27, by omega, by omega, tw27, s_isLawful (hv1.home w _) (hw1.home w q1) (fun y σ3 he3 => br_f2 (by decide) ?_) (fun y σ3 he3 => br_t2 rfl (kq (g σ3 (heq.tr he3 (fun _ h => h) (by simp))) ?_))⟩
          · rw [wr2 (by omega)]
            refine ih (i + 2) (by omega) (by omega) _ σ3 ((hv1.home w _).ex he3 (fun i hi => by simp; omega)) (hw1.home w q1) (heq.tr he3 (fun _ h => h) (by simp)) (fun σ' h' => kq (g σ' h') ?_)
            rw [jdF_s, if_pos (by omega), if_pos ⟨by omega, q1⟩, hwq, Int.toNat_natCast, if_pos ⟨hx, y⟩]
          · rw [jdF_s, if_pos (by omega), if_pos ⟨by omega, q1⟩, hwq, Int.toNat_natCast, if_neg (by simp [y])]
        rw [hwq, Int.toNat_natCast]
        refine ⟨fun q9 => go (Or.inl q9) σ1 rfl, fun q9 => ⟨tw27, ?_⟩⟩
        obtain ⟨s, hsq⟩ : ∃ s : Nat, σ (h + 2) (i + 1) = s := ⟨(σ (h + 2) (i + 1)).toNat, by omega⟩
        have go' := go
        rw [hsq] at go' ⊢
        rw [Int.toNat_natCast] at go'
        refine s_wantsToGo hv1 hw1 (by omega) (by omega) (fun y => br_f2 (by decide) (go' (Or.inr y) σ1 rfl)) (fun y => br_t2 rfl (kq (g σ1 he) ?_))
        rw [jdF_s, if_pos (by omega), if_pos ⟨by omega, q1⟩, hwq, hsq, Int.toNat_natCast, Int.toNat_natCast, if_neg (fun z => z.1.elim (fun z => absurd z (by omega)) (fun z => by rw [y] at z; cases z))]
      · rw [jdF_s, if_pos (by omega), if_neg (fun z => q1 z.2)]
      · rw [jdF_s, if_pos (by omega), if_neg (fun z => p1 z.1)]
      · have e2 : ((n : Int).tmod 2) = ((n % 2 : Nat) : Int) := rfl
        have gg : K (if n % 2 = 1 then (n : Int) else -4) σ1 := kq (g σ1 he) (by rw [jdF_s, if_neg (show ¬ i + 1 < n by omega)])
        rw [e2]
        refine ⟨fun z => ⟨hh, kq gg (by rw [if_pos (by omega)])⟩, fun z => kq gg (by rw [if_neg (by omega)])⟩
  exact key (n + 1) 0 (by omega) (by omega) T σ0 (hb.tv tw27 hv hw) hw (he0.mono (by simp)) hk
/-! found -/
def fsI {α : Type} (f : Nat → Option α) : Nat → Nat → Option α
  | 0, _ => none
  | k + 1, i => match f i with
    | some x => some x
    | none => fsI f k (i + 1)
def fo (T : Sg) : Option (Nat × Nat) := fsI (fun w => fsI (fun s => if wants T w s && may T w s then some (w, s) else none) (nS T) 0) (nP T) 0
theorem s_doFirstOpen {d : Nat} {σ T : Sg} {K : Kt} (hv : TV σ 27 T) (hw : WF T) (h1 : ∀ w s, fo T = some (w, s) → (w : Int) < T 0 1 → (s : Int) < T 0 0 → ∀ σ', Ex L27 σ σ' → TV σ' 27 (up T 7 w s) → K 1 σ') (h0 : fo T = none → ∀ σ', Ex L27 σ σ' → TV σ' 27 T → K 0 σ') : wpCall (d + 6) iX5_doFirstOpen [aR 55] σ K := by
  obtain ⟨ht, ⟨e0, e3, e9, e10, e11⟩, eh, ew, ep⟩ := id hv
  obtain ⟨l1, l2, l3, l4, l5, l6, l7, l8⟩ := tw_len ht
  obtain ⟨⟨⟨a1, a2⟩, ⟨a3, a4⟩, ⟨a5, a6⟩, ⟨a7, a8⟩, a9⟩, wh, ww, wp⟩ := id hw
  have hnP : ((nP T : Nat) : Int) = T 0 1 := Int.toNat_of_nonneg a3
  have hnS : ((nS T : Nat) : Int) = T 0 0 := Int.toNat_of_nonneg a1
  have l34 : LEN 34 = 8 := rfl
  have tv : ∀ {σ1}, Ex [27 + 8] σ σ1 → TV σ1 27 T := fun h => hv.ex h (fun i hi => by simp; omega)
  have key : ∀ k w : Nat, w + k = nP T → ∀ σ1, Ex [27 + 8] σ σ1 → (∀ x, fsI (fun w => fsI (fun s => if wants T w s && may T w s then some (w, s) else none) (nS T) 0) k w = x → fo T = x) → wpL (wpCall (d + 5)) mX5_doFirstOpen K 2 [aR 55, aI (w : Nat), aU] [] σ1 := by
    intro k
    induction k with
    | zero =>
      intro w hp σ1 he g
      obtain ⟨-, ⟨f0, f3, -⟩, -⟩ := tv he
      exact bX5_doFirstOpen_2 ⟨tw27, fun h => absurd h (by omega), fun _ => ⟨by decide, h0 (g none rfl) σ1 (he.mono (by simp)) (tv he)⟩⟩
    | succ k ih =>
      intro w hp σ1 he g
      obtain ⟨-, ⟨f0, f3, -⟩, -⟩ := tv he
      refine bX5_doFirstOpen_2 ⟨tw27, fun _ => ?_, fun h => absurd h (by omega)⟩
      have ks : ∀ m s : Nat, s + m = nS T → ∀ σ2, Ex [27 + 8] σ σ2 → (∀ x, fsI (fun s => if wants T w s && may T w s then some (w, s) else none) m s = x → fsI (fun s => if wants T w s && may T w s then some (w, s) else none) (nS T) 0 = x) → wpL (wpCall (d + 5)) mX5_doFirstOpen K 15 [aR 55, aI (w : Nat), aI (s : Nat)] [] σ2 := by
        intro m
        induction m with
        | zero =>
          intro s hs σ2 he2 gs
          obtain ⟨-, ⟨g0, g3, -⟩, -⟩ := tv he2
          refine bX5_doFirstOpen_15 ⟨tw27, fun h => absurd h (by omega), fun _ => ?_⟩
          rw [wr1 (by omega)]
          refine ih (w + 1) (by omega) σ2 he2 (fun x hx => g x ?_)
          unfold fsI
          rw [gs none rfl]
          exact hx
        | succ m ihm =>
          intro s hs σ2 he2 gs
          obtain ⟨-, ⟨g0, g3, -⟩, -⟩ := tv he2
          have nxt : ∀ σ3, Ex [27 + 8] σ σ3 → (wants T w s && may T w s) = false → wpL (wpCall (d + 5)) mX5_doFirstOpen K 15 [aR 55, aI (w : Nat), aI (wr ((s : Int) + 1))] [] σ3 := fun σ3 he3 hb => by
            rw [wr1 (by omega)]
            refine ihm (s + 1) (by omega) σ3 he3 (fun x hx => gs x ?_)
            unfold fsI
            rw [hb]
            exact hx
          refine bX5_doFirstOpen_15 ⟨tw27, fun _ => ⟨tw27, s_wantsToGo (tv he2) hw (by omega) (by omega) (fun y => br_f2 (by decide) ⟨tw27, s_mayGo (tv he2) hw (by omega) (by omega) (fun y2 σ3 he3 => br_f2 (by decide) ?_) (fun y2 σ3 he3 => br_t2 rfl (nxt σ3 (he2.tr he3 (fun _ h => h) (fun _ h => h)) (by simp [y2])))⟩) (fun y => br_t2 rfl (nxt σ2 he2 (by simp [y])))⟩, fun h => absurd h (by omega)⟩
          rw [Int.toNat_natCast]
          have he3' := he2.tr he3 (fun _ h => h) (fun _ h => h)
          refine ⟨tw27, by omega, by omega, by decide, h1 w s ?_ (by omega) (by omega) _ ((he3'.mono (by simp)).up (by simp)) ((tv he3').home w s)⟩
          refine g _ ?_
          unfold fsI
          rw [gs (some (w, s)) (by unfold fsI; rw [y, y2]; rfl)]
      exact ks (nS T) 0 (by omega) σ1 he (fun x hx => hx)
  exact bX5_doFirstOpen (key (nP T) 0 (by omega) σ Ex.rf (fun x hx => hx))
/-- 40 at most -/
def stl : Nat → Nat → Sg → Nat × Sg
  | 0, n, T => (n, T)
  | k + 1, n, T => match fo T with
    | some (w, s) => stl k (n + 1) (up T 7 w s)
    | none => (n, T)
theorem s_settle {d t : Nat} {σ T : Sg} {K : Kt} (hv : TV σ t T) (hw : WF T) (ht27 : t ≠ 27) (hk : ∀ σ', Ex L27 σ σ' → TV σ' 27 (stl 40 0 T).2 → WF (stl 40 0 T).2 → K ((stl 40 0 T).1 : Nat) σ') : wpCall (d + 7) iX5_settle [aR 55, aR t] σ K := by
  refine bX5_settle ⟨tw27, s_become tw27 hv.1 (Ne.symm ht27) (fun σ0 he0 hb => ?_)⟩
  have key : ∀ k n : Nat, n + k = 40 → ∀ (T1 σ1 : Sg), TV σ1 27 T1 → WF T1 → Ex L27 σ σ1 → (∀ σ', Ex L27 σ σ' → TV σ' 27 (stl k n T1).2 → WF (stl k n T1).2 → K ((stl k n T1).1 : Nat) σ') → wpL (wpCall (d + 6)) mX5_settle K 10 [aR 55, aU, aI (n : Nat)] [] σ1 := by
    intro k
    induction k with
    | zero => exact fun n hn T1 σ1 hv1 hw1 he g => bX5_settle_10 ⟨fun h => absurd h (by omega), fun _ => g σ1 he hv1 hw1⟩
    | succ k ih =>
      intro n hn T1 σ1 hv1 hw1 he g
      refine bX5_settle_10 ⟨fun _ => s_doFirstOpen hv1 hw1 (fun w s hf hp hs σ2 he2 hv2 => br_f2 (by decide) ?_) (fun hf σ2 he2 hv2 => br_t2 rfl ?_), fun h => absurd h (by omega)⟩
      · rw [wr1 (by omega)]
        have e : stl (k + 1) n T1 = stl k (n + 1) (up T1 7 w s) := by
          show (match fo T1 with | some (w, s) => stl k (n + 1) (up T1 7 w s) | none => (n, T1)) = _
          rw [hf]
        rw [e] at g
        exact ih (n + 1) (by omega) _ σ2 hv2 (hw1.home w (by omega)) (he.tr he2 (fun _ h => h) (fun _ h => h)) g
      · have e : stl (k + 1) n T1 = (n, T1) := by
          show (match fo T1 with | some (w, s) => stl k (n + 1) (up T1 7 w s) | none => (n, T1)) = _
          rw [hf]
        rw [e] at g
        exact g σ2 (he.tr he2 (fun _ h => h) (fun _ h => h)) hv2 hw1
  exact key 40 0 (by omega) T σ0 (hb.tv tw27 hv hw) hw (he0.mono (by simp)) hk
