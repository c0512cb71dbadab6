/-! THE MODEL: learn, where, walk, price, alone -/
theorem m_holdsAll {d : Nat} {σ T : Sg} {K : Kt} (hv : MV σ 86 T) (hw : WF T) (hk : K (b2i (lawH T)) σ) : wpCall (d + 4) iX7_holdsAll [aR 85] σ K := by
  obtain ⟨⟨e0, e1, e2, e3, e4⟩, eh, ew, ep⟩ := id hv
  obtain ⟨⟨⟨a1, a2⟩, ⟨a3, a4⟩, ⟨a5, a6⟩, ⟨a7, a8⟩, a9⟩, wh, ww, wp⟩ := id hw
  have hnP : ((nP T : Nat) : Int) = T 0 1 := Int.toNat_of_nonneg a3
  have hnS : ((nS T : Nat) : Int) = T 0 0 := Int.toNat_of_nonneg a1
  have l86 : LEN 86 = 107 := rfl
  have key : ∀ k s : Nat, s + k = nS T → K (b2i (allI (fun s => !over T s) k s)) σ → wpL (wpCall (d + 3)) mX7_holdsAll K 2 [aR 85, aI (s : Nat)] [] σ := by
    intro k
    induction k with
    | zero => exact fun s hs g => bX7_holdsAll_2 ⟨by omega, by omega, fun z => absurd z (by omega), fun _ => ⟨by decide, g⟩⟩
    | succ k ih =>
      intro s hs g
      rw [allI_s] at g
      refine bX7_holdsAll_2 ⟨by omega, by omega, fun _ => m_holdsIn (d := d) hv hw (by omega) (fun q => ⟨fun z => absurd z (by decide), fun _ => ?_⟩) (fun q => ⟨fun _ => ⟨by decide, ?_⟩, fun z => absurd rfl z⟩), fun z => absurd z (by omega)⟩
      · rw [wr1 (by omega)]
        rw [q] at g
        exact ih (s + 1) (by omega) g
      · rw [q] at g; exact g
  exact bX7_holdsAll (key (nS T) 0 (by omega) hk)
theorem m_learn38 {d p : Nat} {σ T : Sg} {K : Kt} (h : MR σ T) (hw : WF T) (hp : (p : Int) < T 0 1) (hk : ∀ σ', Ex [86] σ σ' → MR σ' T → K (lnF T p 8 0 (-4) (-1)) σ') : wpL (wpCall (d + 4)) mX7_learn K 38 [aR 85, aI (p : Nat), aI (T 3 p), aI (-4), aI 0, aI 0] [] σ := by
  have l86 : LEN 86 = 107 := rfl
  have h8 := hw.1.2.1
  have u3 : U8 (T 3 p) := (hw.2.2.2 p hp).1
  have key : ∀ k c : Nat, c + k = 8 → ∀ (f m mm : Int) (σ1 : Sg) (v : Int), U8 v → MR σ1 (up T 3 p v) → Ex [86] σ σ1 → ((f = -4 ∧ m = -1) ∨ (0 ≤ f ∧ mm = m)) → (∀ σ', Ex [86] σ σ' → MR σ' T → K (lnF T p k c f m) σ') → wpL (wpCall (d + 4)) mX7_learn K 38 [aR 85, aI (p : Nat), aI (T 3 p), aI f, aI mm, aI (c : Nat)] [] σ1 := by
    intro k
    induction k with
    | zero =>
      intro c hc f m mm σ1 v uv m1 he hi g
      refine bX7_learn_38 ⟨fun z => absurd z (by omega), fun _ => bX7_puts ?_⟩
      rw [ixp0 (by omega), Int.toNat_natCast]
      have m2 := m1.craft (v := T 3 p) (hw.craft p uv) (show (p : Int) < up T 3 p v 0 1 by rw [u30]; exact hp)
      rw [up_up, up_same] at m2
      exact ⟨by omega, by omega, g _ (he.up (by simp)) m2⟩
    | succ k ih =>
      intro c hc f m mm σ1 v uv m1 he hi g
      have hb := bit01 (c := c) u3 (by omega)
      have nxt : ∀ (σ3 : Sg) (v' : Int), U8 v' → MR σ3 (up T 3 p v') → Ex [86] σ σ3 → ¬ (bit (T 3 p) c = false ∧ m < wNow (lnT T p c) p ∧ lawH (lnT T p c) = true) → wpL (wpCall (d + 4)) mX7_learn K 38 [aR 85, aI (p : Nat), aI (T 3 p), aI f, aI mm, aI (wr ((c : Int) + 1))] [] σ3 := fun σ3 v' uv' m3 he3 hn => by
        rw [wr1 (by omega)]
        exact ih (c + 1) (by omega) f m mm σ3 v' uv' m3 he3 hi (fun σ' e' m' => kq (g σ' e' m') (by show lnF T p k (c + 1) f m = if _ then _ else _; rw [if_neg hn]))
      refine bX7_learn_38 ⟨fun _ => ⟨fun q => nxt σ1 v uv m1 he (fun z => by rw [hb.2.1 q] at z; exact absurd z.1 (by decide)), fun q => bX7_puts ?_⟩, fun z => absurd z (by omega)⟩
      have hb0 : bit (T 3 p) c = false := by
        cases hh : bit (T 3 p) c with
        | true => exact absurd (hb.2.2 hh) q
        | false => rfl
      clear q
      rw [ixp0 (by omega), Int.toNat_natCast]
      have u2 : U8 (bOr (T 3 p) (bShl 1 c)) := U8_or u3 (U8_bShl (by omega)).1
      have m2 := m1.craft (v := bOr (T 3 p) (bShl 1 c)) (hw.craft p uv) (show (p : Int) < up T 3 p v 0 1 by rw [u30]; exact hp)
      rw [up_up] at m2
      have he2 : Ex [86] σ (up σ1 86 (35 + 9 * p) (bOr (T 3 p) (bShl 1 c))) := he.up (by simp)
      have m2' : MR (up σ1 86 (35 + 9 * p) (bOr (T 3 p) (bShl 1 c))) (lnT T p c) := m2
      have hw2 : WF (lnT T p c) := hw.craft p u2
      have hp2 : (p : Int) < lnT T p c 0 1 := by unfold lnT; rw [u30]; exact hp
      have hwn := wNow_r hw2 hp2
      refine ⟨by omega, by omega, m_holdsAll (d := d) m2'.1 hw2 (g2 (fun y => ⟨fun q => ?_, fun q => ?_⟩) (fun y => nxt _ _ u2 m2 he2 (fun z => by rw [y] at z; exact absurd z.2.2 (by decide))))⟩
      · refine m_worthOf (d := d + 1) m2'.1 hw2 hp2 ?_
        rw [wr1 (by omega)]
        exact ih (c + 1) (by omega) c _ _ _ _ u2 m2 he2 (Or.inr ⟨by omega, rfl⟩) (fun σ' e' m' => kq (g σ' e' m') (by show lnF T p k (c + 1) c _ = if _ then _ else _; rw [if_pos ⟨hb0, by omega, y⟩]))
      · refine m_worthOf (d := d + 1) m2'.1 hw2 hp2 ⟨fun q2 => ?_, fun q2 => nxt _ _ u2 m2 he2 (fun z => by omega)⟩
        refine m_worthOf (d := d + 1) m2'.1 hw2 hp2 ?_
        rw [wr1 (by omega)]
        exact ih (c + 1) (by omega) c _ _ _ _ u2 m2 he2 (Or.inr ⟨by omega, rfl⟩) (fun σ' e' m' => kq (g σ' e' m') (by show lnF T p k (c + 1) c _ = if _ then _ else _; rw [if_pos ⟨hb0, by omega, y⟩]))
  exact key 8 0 rfl (-4) (-1) 0 σ (T 3 p) u3 (by rw [up_same]; exact h) Ex.rf (Or.inl ⟨rfl, rfl⟩) hk
theorem m_learn {d : Nat} {x : Int} {σ T : Sg} {K : Kt} (h : MR σ T) (hw : WF T) (hn : ¬ (0 ≤ x ∧ x < T 0 1) → K (-1) σ) (hk : 0 ≤ x ∧ x < T 0 1 → ∀ σ', Ex [86] σ σ' → MR σ' T → K (if T 7 x.toNat = 9 then -4 else lnF T x.toNat 8 0 (-4) (-1)) σ') : wpCall (d + 5) iX7_learn [aR 85, aI x] σ K := by
  have h8 := hw.1.2.1
  refine bX7_learn (m_isOne (d := d + 2) h.1 hw (fun g => ⟨fun z => absurd z (by decide), fun _ => ?_⟩) (fun g => ⟨fun _ => hn g, fun z => absurd rfl z⟩))
  have hk := hk g
  obtain ⟨p, hp⟩ : ∃ p : Nat, x = p := ⟨x.toNat, by omega⟩
  subst hp
  rw [Int.toNat_natCast] at hk
  have w7 := (hw.2.2.2 p g.2).2.2.2.1
  have hlp : lv (T 7 p) < 0 ↔ T 7 p = 9 := by unfold lv; split <;> omega
  refine m_at (d := d + 3) h.1 g.2 h8.2 ⟨fun q => ?_, fun q => m_cr (d := d + 3) h.1 g.2 h8.2 (m_learn38 (d := d) h hw g.2 (fun σ' e m => kq (hk σ' e m) (by rw [if_neg (fun z => q (hlp.2 z))])))⟩
  exact kq (hk σ Ex.rf h) (by rw [if_pos (hlp.1 q)])
theorem m_whereOf {d p : Nat} {σ T : Sg} {K : Kt} (h : MR σ T) (hw : WF T) (hp : (p : Int) < T 0 1) (hk : ∀ σ', Ex [86] σ σ' → MR σ' T → K (lv (bsF T p (nS T) 0 9 (-1))) σ') : wpCall (d + 6) iX7_whereOf [aR 85, aI (p : Nat)] σ K := by
  have l86 : LEN 86 = 107 := rfl
  have h8 := hw.1.2.1
  have h5 := hw.1.1
  have hnS : ((nS T : Nat) : Int) = T 0 0 := Int.toNat_of_nonneg h5.1
  have w7 := home_ok hw hp
  have key : ∀ k s : Nat, s + k = nS T → ∀ (f m mm : Int) (σ1 : Sg) (v : Int), (v = 9 ∨ (0 ≤ v ∧ v < T 0 0)) → MR σ1 (up T 7 p v) → Ex [86] σ σ1 → ((f = 9 ∧ m = -1) ∨ ((0 ≤ f ∧ f < 9) ∧ mm = m)) → (∀ σ', Ex [86] σ σ' → MR σ' T → K (lv (bsF T p k s f m)) σ') → wpL (wpCall (d + 5)) mX7_whereOf K 16 [aR 85, aI (p : Nat), aI (lv (T 7 p)), aI (lv f), aI mm, aI (s : Nat)] [] σ1 := by
    intro k
    induction k with
    | zero =>
      intro s hs f m mm σ1 v hv m1 he hi g
      have f0 : σ1 86 0 = T 0 0 := m1.1.1.1
      refine bX7_whereOf_16 ⟨by omega, by omega, fun z => absurd z (by omega), fun _ => m_go (d := d + 3) m1 (hw.home p hv) (show (p : Int) < up T 7 p v 0 1 by rw [u70]; exact hp) (fun σ2 he2 m2 => ?_)⟩
      rw [up_up, up_same] at m2
      exact g σ2 (he.tr he2 (fun _ h => h) (fun _ h => h)) m2
    | succ k ih =>
      intro s hs f m mm σ1 v hv m1 he hi g
      have f0 : σ1 86 0 = T 0 0 := m1.1.1.1
      have hsT : (s : Int) < T 0 0 := by omega
      refine bX7_whereOf_16 ⟨by omega, by omega, fun _ => m_gos (d := d + 3) m1 (hw.home p hv) (show (p : Int) < up T 7 p v 0 1 by rw [u70]; exact hp) (by omega) (fun σ2 he2 m2 => ?_), fun z => absurd z (by omega)⟩
      rw [up_up] at m2
      have hvs : (s : Int) = 9 ∨ (0 ≤ (s : Int) ∧ (s : Int) < T 0 0) := Or.inr ⟨by omega, hsT⟩
      have hw2 : WF (up T 7 p (s : Int)) := hw.home p hvs
      have hp2 : (p : Int) < up T 7 p (s : Int) 0 1 := by rw [u70]; exact hp
      have he2' : Ex [86] σ σ2 := he.tr he2 (fun _ h => h) (fun _ h => h)
      have ewn : wNow (up T 7 p (s : Int)) p = wAt T p s := wNow_home (by omega)
      have hwa := wAt_r hw hp hsT
      have hlf : lv f < 0 ↔ f = 9 := by unfold lv; split <;> omega
      have e : bsF T p (k + 1) s f m = if m < wAt T p s ∧ may T p s = true then bsF T p k (s + 1) s (wAt T p s) else bsF T p k (s + 1) f m := rfl
      have els : lv (s : Int) = s := lv_id (by omega)
      have nxt : ¬ (m < wAt T p s ∧ may T p s = true) → wpL (wpCall (d + 5)) mX7_whereOf K 16 [aR 85, aI (p : Nat), aI (lv (T 7 p)), aI (lv f), aI mm, aI (wr ((s : Int) + 1))] [] σ2 := fun hn => by
        rw [wr1 (by omega)]
        rw [e, if_neg hn] at g
        exact ih (s + 1) (by omega) f m mm σ2 s hvs m2 he2' hi g
      have yes : may T p s = true → m < wAt T p s → wpL (wpCall (d + 5)) mX7_whereOf K 16 [aR 85, aI (p : Nat), aI (lv (T 7 p)), aI (s : Nat), aI (wAt T p s), aI (wr ((s : Int) + 1))] [] σ2 := fun y y2 => by
        rw [wr1 (by omega)]
        rw [e, if_pos ⟨y2, y⟩] at g
        have := ih (s + 1) (by omega) (s : Int) (wAt T p s) (wAt T p s) σ2 s hvs m2 he2' (Or.inr ⟨by omega, rfl⟩) g
        rw [els] at this
        exact this
      refine m_isLawful (d := d) m2.1 hw2 (g2 (fun y => ⟨fun q => m_worthOf (d := d + 2) m2.1 hw2 hp2 ?_, fun q => m_worthOf (d := d + 2) m2.1 hw2 hp2 ?_⟩) (fun y => nxt (fun z => by rw [show may T p s = false from y] at z; exact absurd z.2 (by decide))))
      · rw [ewn]
        exact yes y (by omega)
      · rw [ewn]
        exact ⟨fun q2 => m_worthOf (d := d + 2) m2.1 hw2 hp2 (by rw [ewn]; exact yes y (by omega)), fun q2 => nxt (fun z => by omega)⟩
  exact bX7_whereOf (m_at (d := d + 4) h.1 hp h8.2 (key (nS T) 0 (by omega) 9 (-1) 0 σ (T 7 p) w7 (by rw [up_same]; exact h) Ex.rf (Or.inl ⟨rfl, rfl⟩) hk))
theorem m_where {d : Nat} {x : Int} {σ T : Sg} {K : Kt} (h : MR σ T) (hw : WF T) (hn : ¬ (0 ≤ x ∧ x < T 0 1) → K (-1) σ) (hk : 0 ≤ x ∧ x < T 0 1 → ∀ σ', Ex [86] σ σ' → MR σ' T → K (lv (bsF T x.toNat (nS T) 0 9 (-1))) σ') : wpCall (d + 7) iX7_where [aR 85, aI x] σ K := by
  refine bX7_where (m_isOne (d := d + 4) h.1 hw (fun g => ⟨fun z => absurd z (by decide), fun _ => ?_⟩) (fun g => ⟨fun _ => hn g, fun z => absurd rfl z⟩))
  have hk := hk g
  obtain ⟨p, hp⟩ : ∃ p : Nat, x = p := ⟨x.toNat, by omega⟩
  subst hp
  rw [Int.toNat_natCast] at hk
  exact m_whereOf (d := d) h hw g.2 hk
/-- with the street itself -/
def wkG (T : Sg) (s c : Nat) : Nat → Nat → Int → Int
  | 0, _, l => l
  | k + 1, i, l => wkG T s c k (i + 1) (if 0 < withC T i c ∧ (l = -4 ∨ T 2 (5 * s + i) < l) then T 2 (5 * s + i) else l)
theorem wkG_F {T : Sg} {s c : Nat} (h0 : ¬ 0 < withC T s c) : ∀ k i l, wkG T s c k i l = wkF T s c k i l
  | 0, _, _ => rfl
  | k + 1, i, l => by
    show wkG T s c k (i + 1) (if _ then _ else _) = wkF T s c k (i + 1) (if _ then _ else _)
    rw [wkG_F h0 k]
    congr 1
    by_cases e : i = s
    · subst e
      rw [if_neg (fun z => h0 z.1), if_neg (fun z => z.1 rfl)]
    · by_cases q : 0 < withC T i c ∧ (l = -4 ∨ T 2 (5 * s + i) < l)
      · rw [if_pos q, if_pos ⟨e, q⟩]
      · rw [if_neg q, if_neg (fun z => q z.2)]
theorem wkG_0 {T : Sg} {s c : Nat} (hw : WF T) (hs : (s : Int) < T 0 0) (h0 : 0 < withC T s c) : ∀ k i : Nat, i + k = nS T → ∀ l : Int, (l = -4 ∨ 0 ≤ l) → (i ≤ s ∨ l = 0) → wkG T s c k i l = 0 := by
  have h5 := hw.1.1
  have hnS : ((nS T : Nat) : Int) = T 0 0 := Int.toNat_of_nonneg h5.1
  intro k
  induction k with
  | zero => intro i hi l hl hz; show l = 0; omega
  | succ k ih =>
    intro i hi l hl hz
    have w := (hw.2.2.1 s i hs (by omega))
    have w0 := w.1
    refine ih (i + 1) (by omega) _ ?_ ?_
    · split <;> omega
    · by_cases e : i = s
      · right
        subst e
        have w1 := w.2.2 rfl
        rw [w1]
        split
        · rfl
        · next q =>
          have : ¬ (l = -4 ∨ 0 < l) := fun z => q ⟨h0, z⟩
          omega
      · by_cases e2 : i < s
        · left; omega
        · right
          have hl0 : l = 0 := by omega
          rw [if_neg (fun z => by omega)]; exact hl0
theorem bit_withC {T : Sg} {s c : Nat} (hw : WF T) (hc : c < 8) : (bAnd (bShr (ors (fun p => decide (T 7 p = s)) (T 3) (nP T)) c) 1 = 0 ↔ ¬ 0 < withC T s c) := by
  have hu : ∀ p, p < nP T → U8 (T 3 p) := fun p hp => (hw.2.2.2 p (nP_lt hp)).1
  have u := U8_ors (f := fun p => decide (T 7 p = s)) (g := T 3) (n := nP T) hu
  have e := bit_ors (f := fun p => decide (T 7 p = s)) (g := T 3) hc (nP T) hu
  have b := bit01 (c := c) u hc
  rw [b.1]
  unfold withC
  rw [← e]
  cases bit (ors (fun p => decide (T 7 p = (s : Int))) (T 3) (nP T)) c <;> simp
theorem m_nearest {d s c : Nat} {o : Int} {σ T : Sg} {K : Kt} (hv : MV σ 86 T) (hw : WF T) (hs : (s : Int) < T 0 0) (hc : c < 8) (hk : K (if o = 0 then wkG T s c (nS T) 0 (-4) else wkF T s c (nS T) 0 (-4)) σ) : wpCall (d + 3) iX7_nearest [aR 85, aI (s : Nat), aI (c : Nat), aI o] σ K := by
  obtain ⟨⟨e0, e1, e2, e3, e4⟩, eh, ew, ep⟩ := id hv
  obtain ⟨⟨⟨a1, a2⟩, ⟨a3, a4⟩, ⟨a5, a6⟩, ⟨a7, a8⟩, a9⟩, wh, ww, wp⟩ := id hw
  have hnP : ((nP T : Nat) : Int) = T 0 1 := Int.toNat_of_nonneg a3
  have hnS : ((nS T : Nat) : Int) = T 0 0 := Int.toNat_of_nonneg a1
  have l86 : LEN 86 = 107 := rfl
  have key : ∀ k i : Nat, i + k = nS T → ∀ (l : Int), (l = -4 ∨ 0 ≤ l) → K (if o = 0 then wkG T s c k i l else wkF T s c k i l) σ → wpL (wpCall (d + 2)) mX7_nearest K 7 [aR 85, aI (s : Nat), aI (c : Nat), aI o, aI l, aI (i : Nat)] [] σ := by
    intro k
    induction k with
    | zero => exact fun i hi l hl g => bX7_nearest_7 ⟨by omega, by omega, fun z => absurd z (by omega), fun _ => kq g (by split <;> rfl)⟩
    | succ k ih =>
      intro i hi l hl g
      have w0 := (ww s i hs (by omega)).1
      have hb := bit_withC (T := T) (s := i) (c := c) hw hc
      have nxt : ∀ l', (l' = -4 ∨ 0 ≤ l') → (if o = 0 then (if 0 < withC T i c ∧ (l = -4 ∨ T 2 (5 * s + i) < l) then T 2 (5 * s + i) else l) else (if i ≠ s ∧ 0 < withC T i c ∧ (l = -4 ∨ T 2 (5 * s + i) < l) then T 2 (5 * s + i) else l)) = l' → wpL (wpCall (d + 2)) mX7_nearest K 7 [aR 85, aI (s : Nat), aI (c : Nat), aI o, aI l', aI (wr ((i : Int) + 1))] [] σ := fun l' hl' e => by
        rw [wr1 (by omega)]
        refine ih (i + 1) (by omega) l' hl' (kq g ?_)
        by_cases q : o = 0
        · rw [if_pos q] at e ⊢
          rw [if_pos q, ← e]; rfl
        · rw [if_neg q] at e ⊢
          rw [if_neg q, ← e]; rfl
      have b28 : (o = 0 ∨ i ≠ s) → wpL (wpCall (d + 2)) mX7_nearest K 28 [aR 85, aI (s : Nat), aI (c : Nat), aI o, aI l, aI (i : Nat)] [] σ := fun ho => by
        refine bX7_nearest_28 (m_craftsIn (d := d) hv hw (by omega) ?_)
        rw [if_pos rfl]
        have no : ¬ (0 < withC T i c ∧ (l = -4 ∨ T 2 (5 * s + i) < l)) → (if o = 0 then (if 0 < withC T i c ∧ (l = -4 ∨ T 2 (5 * s + i) < l) then T 2 (5 * s + i) else l) else (if i ≠ s ∧ 0 < withC T i c ∧ (l = -4 ∨ T 2 (5 * s + i) < l) then T 2 (5 * s + i) else l)) = l := fun z => by
          by_cases q : o = 0
          · rw [if_pos q, if_neg z]
          · rw [if_neg q, if_neg (fun y => z y.2)]
        have yes : (0 < withC T i c ∧ (l = -4 ∨ T 2 (5 * s + i) < l)) → (if o = 0 then (if 0 < withC T i c ∧ (l = -4 ∨ T 2 (5 * s + i) < l) then T 2 (5 * s + i) else l) else (if i ≠ s ∧ 0 < withC T i c ∧ (l = -4 ∨ T 2 (5 * s + i) < l) then T 2 (5 * s + i) else l)) = T 2 (5 * s + i) := fun z => by
          rcases ho with ho | ho
          · rw [if_pos ho, if_pos z]
          · by_cases q : o = 0
            · rw [if_pos q, if_pos z]
            · rw [if_neg q, if_pos ⟨ho, z⟩]
        refine ⟨fun q => nxt l hl (no (fun z => hb.1 q z.1)), fun q => ?_⟩
        have hpos : 0 < withC T i c := Decidable.byContradiction (fun z => q (hb.2 z))
        clear q
        refine ⟨fun q2 => m_wayOf (d := d + 1) hv hw hs (by omega) (nxt _ (by omega) (yes ⟨hpos, by omega⟩)), fun q2 => m_wayOf (d := d + 1) hv hw hs (by omega) ⟨fun q3 => m_wayOf (d := d + 1) hv hw hs (by omega) (nxt _ (by omega) (yes ⟨hpos, Or.inr q3⟩)), fun q3 => nxt l hl (no (fun z => by omega))⟩⟩
      refine bX7_nearest_7 ⟨by omega, by omega, fun _ => ⟨fun q => b28 (Or.inl q), fun q => ⟨fun q2 => nxt l hl ?_, fun q2 => b28 (Or.inr (by omega))⟩⟩, fun z => absurd z (by omega)⟩
      rw [if_neg q, if_neg (fun z => z.1 (by omega))]
  exact bX7_nearest (key (nS T) 0 (by omega) (-4) (Or.inl rfl) hk)
theorem m_isCraft {d : Nat} {x : Int} {σ : Sg} {K : Kt} (h1 : 0 ≤ x ∧ x < 8 → K 1 σ) (h0 : ¬ (0 ≤ x ∧ x < 8) → K 0 σ) : wpCall (d + 2) iX7_isCraft [aI x] σ K :=
  bX7_isCraft (m_isIn (d := d) (fun q => ⟨by decide, h1 (by omega)⟩) (fun q => ⟨by decide, h0 (by omega)⟩))
def walkF (T : Sg) (s c : Nat) : Int := if 0 < withC T s c then 0 else wkF T s c (nS T) 0 (-4)
theorem m_walk {d : Nat} {x y : Int} {σ T : Sg} {K : Kt} (h : MR σ T) (hw : WF T) (hn : ¬ ((0 ≤ x ∧ x < T 0 0) ∧ (0 ≤ y ∧ y < 8)) → K (-1) σ) (hk : (0 ≤ x ∧ x < T 0 0) → (0 ≤ y ∧ y < 8) → K (walkF T x.toNat y.toNat) σ) : wpCall (d + 4) iX7_walk [aR 85, aI x, aI y] σ K := by
  have h5 := hw.1.1
  have hnS : ((nS T : Nat) : Int) = T 0 0 := Int.toNat_of_nonneg h5.1
  refine bX7_walk (m_isStreet (d := d + 1) h.1 hw (fun g => ⟨fun z => absurd z (by decide), fun _ => m_isCraft (d := d + 1) (fun g2 => ⟨fun z => absurd z (by decide), fun _ => ?_⟩) (fun g2 => ⟨fun _ => hn (fun z => g2 z.2), fun z => absurd rfl z⟩)⟩) (fun g => ⟨fun _ => hn (fun z => g z.1), fun z => absurd rfl z⟩))
  have hk := hk g g2
  obtain ⟨s, hs⟩ : ∃ s : Nat, x = s := ⟨x.toNat, by omega⟩
  obtain ⟨c, hc⟩ : ∃ c : Nat, y = c := ⟨y.toNat, by omega⟩
  subst hs hc
  rw [Int.toNat_natCast, Int.toNat_natCast] at hk
  refine m_nearest (d := d) h.1 hw g.2 (by omega) (kq hk ?_)
  rw [if_pos rfl]
  unfold walkF
  split
  · next q => exact wkG_0 hw g.2 q (nS T) 0 (by omega) (-4) (Or.inl rfl) (Or.inl (by omega))
  · next q => exact wkG_F q (nS T) 0 (-4)
theorem m_withCraft {d c : Nat} {s : Int} {σ T : Sg} {K : Kt} (hv : MV σ 86 T) (hw : WF T) (hs : s = -4 ∨ (0 ≤ s ∧ s < 9)) (hc : c < 8) (hk : K (if s < 0 then allC T c else withC T s c) σ) : wpCall (d + 2) iX7_withCraft [aR 85, aI s, aI (c : Nat)] σ K := by
  obtain ⟨⟨e0, e1, e2, e3, e4⟩, eh, ew, ep⟩ := id hv
  obtain ⟨⟨⟨a1, a2⟩, ⟨a3, a4⟩, ⟨a5, a6⟩, ⟨a7, a8⟩, a9⟩, wh, ww, wp⟩ := id hw
  have hnP : ((nP T : Nat) : Int) = T 0 1 := Int.toNat_of_nonneg a3
  have hnS : ((nS T : Nat) : Int) = T 0 0 := Int.toNat_of_nonneg a1
  have l86 : LEN 86 = 107 := rfl
  obtain ⟨f, hf⟩ : ∃ f : Nat → Bool, f = fun p => (if s < 0 then hm T p else decide (T 7 p = s)) && bit (T 3 p) c := ⟨_, rfl⟩
  have hk : K (cnt f (nP T)) σ := kq hk (by
    rw [hf]
    by_cases q : s < 0
    · rw [if_pos q]; unfold allC; simp only [if_pos q]
    · rw [if_neg q]; unfold withC; simp only [if_neg q])
  refine bX7_withCraft (dwn (W := fun p => wpL (wpCall (d + 1)) mX7_withCraft K 5 [aR 85, aI s, aI (c : Nat), aI (cnt f p), aI (p : Nat)] [] σ) (nP T) ?_ (fun p hp ih => ?_) 0 (Nat.zero_le _))
  · exact bX7_withCraft_5 ⟨by omega, by omega, fun z => absurd z (by omega), fun _ => hk⟩
  · have r := cnt_r f p
    have w7 := (wp p (by omega)).2.2.2.1
    have hlp : lv (T 7 p) < 0 ↔ T 7 p = 9 := by unfold lv; split <;> omega
    have hb := bit01 (c := c) (wp p (by omega)).1 hc
    have fp : f p = ((if s < 0 then hm T p else decide (T 7 p = s)) && bit (T 3 p) c) := by rw [hf]
    have t1 : f p = true → wpL (wpCall (d + 1)) mX7_withCraft K 5 [aR 85, aI s, aI (c : Nat), aI (wr (cnt f p + 1)), aI (wr ((p : Int) + 1))] [] σ := fun q => wq ih (by rw [wr1 (by omega), cnt_t q, wr_id ⟨by omega, by omega⟩])
    have t0 : f p = false → wpL (wpCall (d + 1)) mX7_withCraft K 5 [aR 85, aI s, aI (c : Nat), aI (wr (cnt f p + 0)), aI (wr ((p : Int) + 1))] [] σ := fun q => wq ih (by rw [wr1 (by omega), cnt_f q, wr_id ⟨by omega, by omega⟩, Int.add_zero])
    have nb : ¬ bAnd (bShr (T 3 p) c) 1 = 1 → bit (T 3 p) c = false := fun q => by
      cases hh : bit (T 3 p) c with
      | true => exact absurd (hb.2.2 hh) q
      | false => rfl
    refine bX7_withCraft_5 ⟨by omega, by omega, fun _ => m_at (d := d) hv (by omega) (by omega) ⟨fun q => t0 ?_, fun q => ⟨fun q2 => m_cr (d := d) hv (by omega) (by omega) ⟨fun q3 => t1 ?_, fun q3 => t0 ?_⟩, fun q2 => m_at (d := d) hv (by omega) (by omega) ⟨fun q3 => m_cr (d := d) hv (by omega) (by omega) ⟨fun q4 => t1 ?_, fun q4 => t0 ?_⟩, fun q3 => t0 ?_⟩⟩⟩, fun z => absurd hp (by omega)⟩
    · have e9 := hlp.1 q
      rw [fp]
      split
      · unfold hm; rw [e9]; rfl
      · rw [decide_eq_false (by omega)]; rfl
    · rw [fp, if_pos q2, hb.2.1 q3]
      unfold hm
      rw [decide_eq_false (fun z => q (hlp.2 z))]; rfl
    · rw [fp, nb q3, Bool.and_false]
    · rw [lv_eq (by omega)] at q3
      rw [fp, if_neg q2, decide_eq_true q3, hb.2.1 q4]; rfl
    · rw [fp, nb q4, Bool.and_false]
    · rw [lv_eq (by omega)] at q3
      rw [fp, if_neg q2, decide_eq_false q3]; rfl
theorem m_price {d : Nat} {x y : Int} {σ T : Sg} {K : Kt} (h : MR σ T) (hw : WF T) (hn : ¬ ((0 ≤ x ∧ x < T 0 0) ∧ (0 ≤ y ∧ y < 8)) → K (-1) σ) (hk : (0 ≤ x ∧ x < T 0 0) → (0 ≤ y ∧ y < 8) → K (priceF (withC T x.toNat y.toNat) (wkF T x.toNat y.toNat (nS T) 0 (-4))) σ) : wpCall (d + 4) iX7_price [aR 85, aI x, aI y] σ K := by
  have h5 := hw.1.1
  have h8 := hw.1.2.1
  have hnP : ((nP T : Nat) : Int) = T 0 1 := Int.toNat_of_nonneg h8.1
  have hnS : ((nS T : Nat) : Int) = T 0 0 := Int.toNat_of_nonneg h5.1
  refine bX7_price (m_isStreet (d := d + 1) h.1 hw (fun g => ⟨fun z => absurd z (by decide), fun _ => m_isCraft (d := d + 1) (fun g2 => ⟨fun z => absurd z (by decide), fun _ => ?_⟩) (fun g2 => ⟨fun _ => hn (fun z => g2 z.2), fun z => absurd rfl z⟩)⟩) (fun g => ⟨fun _ => hn (fun z => g z.1), fun z => absurd rfl z⟩))
  have hk := hk g g2
  obtain ⟨s, hs⟩ : ∃ s : Nat, x = s := ⟨x.toNat, by omega⟩
  obtain ⟨c, hc⟩ : ∃ c : Nat, y = c := ⟨y.toNat, by omega⟩
  subst hs hc
  rw [Int.toNat_natCast, Int.toNat_natCast] at hk
  have r := cnt_r (fun p => decide (T 7 p = s) && bit (T 3 p) c) (nP T)
  have r2 : 0 ≤ withC T s c ∧ withC T s c ≤ 8 := by unfold withC; omega
  have r3 := wkF_r (c := c) hw g.2 (nS T) 0 (by omega) (-4) (Or.inl rfl)
  refine m_withCraft (d := d + 1) h.1 hw (by omega) (by omega) ?_
  rw [if_neg (show ¬ (s : Int) < 0 by omega)]
  generalize withC T s c = n at *
  refine ⟨fun q => kq hk (by unfold priceF; rw [if_pos q]), fun q => m_nearest (d := d) h.1 hw g.2 (by omega) ?_⟩
  rw [if_neg (show ¬ (1 : Int) = 0 by decide)]
  generalize wkF T s c (nS T) 0 (-4) = w at *
  unfold priceF at hk
  rw [if_neg q] at hk
  refine ⟨fun q2 => ?_, fun q2 => ?_⟩
  · have e : wr (wr (10 + 20) - wr (5 * wr (n - 1))) = 30 - 5 * (n - 1) := by unfold wr; omega
    rw [e]
    rw [if_pos (show w = -4 by omega)] at hk
    exact ⟨fun q3 => kq hk (by rw [if_neg (by omega)]), fun q3 => kq hk (by split <;> omega)⟩
  · have e : wr (wr (10 + wr (2 * w)) - wr (5 * wr (n - 1))) = (10 + 2 * w) - 5 * (n - 1) := by unfold wr; omega
    rw [e]
    rw [if_neg (show ¬ w = -4 by omega)] at hk
    exact ⟨fun q3 => kq hk (by rw [if_neg (by omega)]), fun q3 => kq hk (by split <;> omega)⟩
theorem m_alone {d : Nat} {σ T : Sg} {K : Kt} (h : MR σ T) (hw : WF T) (hk : K (aloneN T) σ) : wpCall (d + 3) iX7_alone [aR 85] σ K := by
  refine bX7_alone (dwn (W := fun c => wpL (wpCall (d + 2)) mX7_alone K 4 [aR 85, aI (cnt (fun c => decide (allC T c = 1)) c), aI (c : Nat)] [] σ) 8 ?_ (fun c hc ih => ?_) 0 (Nat.zero_le _))
  · exact bX7_alone_4 ⟨fun z => by omega, fun _ => hk⟩
  · have r := cnt_r (fun c => decide (allC T c = 1)) c
    refine bX7_alone_4 ⟨fun _ => m_withCraft (d := d) h.1 hw (Or.inl rfl) hc ?_, fun z => by omega⟩
    rw [if_pos (by decide)]
    refine ⟨fun q => wq ih ?_, fun q => wq ih ?_⟩
    · rw [wr1 (by omega), cnt_t (by simp [q]), wr_id ⟨by omega, by omega⟩]
    · rw [wr1 (by omega), cnt_f (by simp [q]), wr_id ⟨by omega, by omega⟩, Int.add_zero]
