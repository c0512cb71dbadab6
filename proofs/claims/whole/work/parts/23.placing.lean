/-! the class's search -/
theorem wrm1 {p : Nat} (h : p < 100000) : wr (((p + 1 : Nat) : Int) + -1) = (p : Int) := by unfold wr; push_cast; omega
theorem wrs1 {p : Nat} (h : p < 100000) : wr ((p : Int) - 1) = (p : Int) - 1 := by unfold wr; omega
def gmx (T : Sg) (gn : Nat → Nat → Int) (p : Nat) : Nat → Int
  | 0 => 0
  | s + 1 => if gmx T gn p s < gn p s then gn p s else gmx T gn p s
theorem gmx_r {T : Sg} {gn : Nat → Nat → Int} {p : Nat} (hg : ∀ s, 0 ≤ gn p s ∧ gn p s ≤ 99) : ∀ n, (0 ≤ gmx T gn p n ∧ gmx T gn p n ≤ 99) ∧ ∀ s, s < n → gn p s ≤ gmx T gn p n
  | 0 => ⟨by simp [gmx], fun s h => by omega⟩
  | n + 1 => by
    obtain ⟨h1, h2⟩ := gmx_r (T := T) hg n
    have h3 := hg n
    unfold gmx
    split
    · refine ⟨h3, fun s hs => ?_⟩
      by_cases e : s = n
      · subst e; omega
      · have := h2 s (by omega); omega
    · refine ⟨h1, fun s hs => ?_⟩
      by_cases e : s = n
      · subst e; omega
      · exact h2 s (by omega)
def GN (σ : Sg) (T : Sg) (gn : Nat → Nat → Int) : Prop := ∀ q s : Nat, (q : Int) < T 0 1 → (s : Int) < T 0 0 → σ 53 (5 * q + s) = gn q s
theorem s_greatestGain {d t p : Nat} {σ T : Sg} {gn : Nat → Nat → Int} {K : Kt} (hv : TV σ t T) (hw : WF T) (hp : (p : Int) < T 0 1) (hG : GN σ T gn) (hk : K (gmx T gn p (nS T)) σ) : wpCall (d + 1) iX1_greatestGain [aR 48, aR t, aI (p : Nat)] σ K := by
  obtain ⟨ht, ⟨e0, e3, e9, e10, e11⟩, eh, ew, ep⟩ := id hv
  obtain ⟨l1, l2, l3, l4, l5, l6, l7, l8⟩ := tw_len ht
  obtain ⟨⟨⟨a1, a2⟩, ⟨a3, a4⟩, ⟨a5, a6⟩, ⟨a7, a8⟩, a9⟩, wh, ww, wp⟩ := id hw
  have hnP : ((nP T : Nat) : Int) = T 0 1 := Int.toNat_of_nonneg a3
  have hnS : ((nS T : Nat) : Int) = T 0 0 := Int.toNat_of_nonneg a1
  have l53 : LEN 53 = 40 := rfl
  refine bX1_greatestGain (dwn (W := fun s => wpL (wpCall d) mX1_greatestGain K 5 [aR 48, aR t, aI (p : Nat), aI (gmx T gn p s), aI (s : Nat)] [] σ) (nS T) ?_ (fun s hs ih => ?_) 0 (Nat.zero_le _))
  · exact bX1_greatestGain_5 ⟨ht, fun h => absurd h (by omega), fun _ => hk⟩
  · refine bX1_greatestGain_5 ?_
    rw [ix5 (by omega) (by omega), Int.toNat_natCast, hG p s hp (by omega), wr1 (by omega)]
    exact ⟨ht, fun _ => ⟨by omega, by omega, ih⟩, fun h => absurd h (by omega)⟩
/-- what the search's cells hold at person p of the living h -/
def PL (σ : Sg) (t : Nat) (T : Sg) (gn : Nat → Nat → Int) (mx : Nat → Int) (p : Nat) (h : Nat → Int) : Prop :=
  (∀ q : Nat, q < p → σ 49 q = h q) ∧ (∀ s : Nat, (s : Int) < T 0 0 → σ 51 s = crowd (hom T h) s) ∧ (∀ o : Nat, (o : Int) < T 0 0 → σ (t + 8) o = wr (pkI (cntL (hom T h) o))) ∧ (∀ q : Nat, (q : Int) < T 0 1 → σ 52 q = lod (own T q)) ∧ GN σ T gn ∧ ∀ q : Nat, (q : Int) ≤ T 0 1 → σ 54 q = hope mx (nP T - q) q
theorem tv_pl {σ σ' : Sg} {t : Nat} {T : Sg} {l : List Nat} (hv : TV σ t T) (he : Ex l σ σ') (hl : ∀ a ∈ l, a = t + 8 ∨ 48 ≤ a) : TV σ' t T := hv.ex he (fun i hi q => by
  have := tw_le hv.1
  rcases hl _ q with h | h <;> omega)
theorem s_fits {d t p s : Nat} {h : Nat → Int} {σ T : Sg} {gn : Nat → Nat → Int} {mx : Nat → Int} {K : Kt} (hv : TV σ t T) (hw : WF T) (hp : (p : Int) < T 0 1) (hs : (s : Int) < T 0 0) (hpl : PL σ t T gn mx p h) (h9 : ∀ q, p ≤ q → q < nP T → h q = 9) (hl : lawful (hom T h) = true) (h1 : lawful (hom T (hu h p s)) = true → K 1 σ) (h0 : lawful (hom T (hu h p s)) = false → K 0 σ) : wpCall (d + 2) iX1_fits [aR 48, aR t, aI (p : Nat), aI (s : Nat)] σ K := by
  obtain ⟨ht, ⟨e0, e3, e9, e10, e11⟩, eh, ew, ep⟩ := id hv
  obtain ⟨l1, l2, l3, l4, l5, l6, l7, l8⟩ := tw_len ht
  obtain ⟨⟨⟨a1, a2⟩, ⟨a3, a4⟩, ⟨a5, a6⟩, ⟨a7, a8⟩, a9⟩, wh, ww, wp⟩ := id hw
  have hnP : ((nP T : Nat) : Int) = T 0 1 := Int.toNat_of_nonneg a3
  have hnS : ((nS T : Nat) : Int) = T 0 0 := Int.toNat_of_nonneg a1
  obtain ⟨p49, p51, p8, p52, p53, p54⟩ := hpl
  have l49 : LEN 49 = 8 := rfl
  have l51 : LEN 51 = 5 := rfl
  have l52 : LEN 52 = 8 := rfl
  have wt := (wp p hp).2.2.1
  have fi := fits_iff (s := s) hw (show p < nP T by omega) (by omega) h9 hl
  have no : ¬ (crowd (hom T h) s < T 1 s ∧ (T 5 p = -4 ∨ h (T 5 p).toNat = 9 ∨ h (T 5 p).toNat = s) ∧ ∀ o, o < nS T → tog T s o = true → ∀ c, c < 8 → cntL (hom T h) o c + b2i (bit (own T p) c) ≤ T 0 2) → K 0 σ := fun z => h0 (by
    cases e : lawful (hom T (hu h p s)) with
    | false => rfl
    | true => exact absurd (fi.mp e) z)
  refine bX1_fits ?_
  rw [Int.toNat_natCast, Int.toNat_natCast, p51 s hs, eh s hs, (ep p hp).2.2.1]
  have lp : crowd (hom T h) s < T 1 s → (T 5 p = -4 ∨ h (T 5 p).toNat = 9 ∨ h (T 5 p).toNat = s) → wpL (wpCall (d + 1)) mX1_fits K 60 [aR 48, aR t, aI (p : Nat), aI (s : Nat), aU, aI 0] [] σ := by
    intro c1 c2
    have key : ∀ k o : Nat, o + k = nS T → (∀ x, x < o → tog T s x = true → ∀ c, c < 8 → cntL (hom T h) x c + b2i (bit (own T p) c) ≤ T 0 2) → wpL (wpCall (d + 1)) mX1_fits K 60 [aR 48, aR t, aI (p : Nat), aI (s : Nat), aU, aI (o : Nat)] [] σ := by
      intro k
      induction k with
      | zero => exact fun o ho g => bX1_fits_60 ⟨ht, fun h => absurd h (by omega), fun _ => ⟨by decide, h1 (fi.mpr ⟨c1, c2, fun x hx => g x (by omega)⟩)⟩⟩
      | succ k ih =>
        intro o ho g
        refine bX1_fits_60 ⟨ht, fun _ => ⟨ht, s_countTogether hv hw hs (by omega) (fun q => br_f2 (by decide) ⟨ht, by omega, by omega, by omega, by omega, ht, ?_⟩) (fun q => br_t2 rfl ?_)⟩, fun h => absurd h (by omega)⟩
        · rw [Int.toNat_natCast, Int.toNat_natCast, p8 o (by omega), p52 p hp]
          have e1 : wr (wr (pkI (cntL (hom T h) o)) + lod (own T p)) = wr (pkI (fun c => cntL (hom T h) o c + b2i (bit (own T p) c))) := by
            have e2 : ∀ x y : Int, wr (wr x + y) = wr (x + y) := fun x y => by unfold wr; omega
            rw [e2, lod, ← pkI_add]
          rw [e1]
          clear e1
          have hP8 : hom T h 0 1 ≤ 8 := by rw [homf (by omega)]; exact a4
          have he2 : ∀ c, c < 8 → 0 ≤ cntL (hom T h) o c + b2i (bit (own T p) c) ∧ cntL (hom T h) o c + b2i (bit (own T p) c) ≤ 8 := by
            intro c hc
            have g1 := cntL_r (hom T h) o c hP8
            have g2 := b2i_r (bit (own T p) c)
            have g3 : cntL (hom T h) o c ≤ 7 := by
              unfold cntL
              rw [nP_hom, hom7]
              have hpn : p < nP T := by omega
              have key2 : ∀ (f : Nat → Bool) (n : Nat), p < n → f p = false → cnt f n ≤ (n : Int) - 1 := by
                intro f n
                induction n with
                | zero => intro h _; omega
                | succ n ihn =>
                  intro h1 h2
                  by_cases e : p = n
                  · subst e
                    rw [cnt_f h2]
                    have := (cnt_r f p).2
                    omega
                  · have := ihn (by omega) h2
                    have b := b2i_r (f n)
                    simp only [cnt]
                    omega
              have := key2 (fun p => !decide (h p = 9) && (tog (hom T h) (h p).toNat o && bit (own (hom T h) p) c)) (nP T) hpn (by simp [h9 p (by omega) hpn])
              omega
            omega
          refine s_isTooMuch hv hw he2 (fun z => br_f2 (by decide) ⟨by decide, no (fun y => z (fun c hc => y.2.2 o (by omega) q c hc))⟩) (fun z => br_t2 rfl ?_)
          rw [wr1 (by omega)]
          refine ih (o + 1) (by omega) (fun x hx ht2 c hc => ?_)
          by_cases e : x = o
          · subst e; exact z c hc
          · exact g x (by omega) ht2 c hc
        · rw [wr1 (by omega)]
          refine ih (o + 1) (by omega) (fun x hx ht2 c hc => ?_)
          by_cases e : x = o
          · subst e; rw [q] at ht2; cases ht2
          · exact g x (by omega) ht2 c hc
    exact key (nS T) 0 (by omega) (fun x hx => by omega)
  refine ⟨by omega, by omega, ht, by omega, by omega, fun c1 => ⟨ht, by omega, by omega, fun c2 => lp c1 (Or.inl c2), fun c2 => ?_⟩, fun c1 => ⟨by decide, no (fun z => c1 z.1)⟩⟩
  have hq : σ 49 (T 5 p).toNat = h (T 5 p).toNat := p49 _ (by omega)
  rw [hq]
  refine ⟨by omega, by omega, fun c3 => lp c1 (Or.inr (Or.inl c3)), fun c3 => ⟨by omega, by omega, fun c4 => lp c1 (Or.inr (Or.inr c4)), fun c4 => ⟨by decide, no (fun z => ?_)⟩⟩⟩
  rcases z.2.1 with z | z | z
  · exact c2 z
  · exact c3 z
  · exact c4 z
def BE (σ : Sg) (T : Sg) (b : Int × (Nat → Int)) : Prop := σ 48 6 = b.1 ∧ ∀ q : Nat, (q : Int) < T 0 1 → σ 50 q = b.2 q
theorem pk_neg (n m : Nat → Int) : wr (wr (pkI (fun c => n c + m c)) + wr (-(pkI m))) = wr (pkI n) := by
  rw [pkI_add]
  unfold wr
  omega
theorem s_placeFrom {t : Nat} {T : Sg} {gn : Nat → Nat → Int} {mx : Nat → Int} (hw : WF T) (hg : ∀ q s, 0 ≤ gn q s ∧ gn q s ≤ 99) (hm : ∀ q s, s < nS T → gn q s ≤ mx q) (hmx : ∀ q, 0 ≤ mx q ∧ mx q ≤ 99) : ∀ (k : Nat) {d p : Nat} {h : Nat → Int} {sum : Int} {b : Int × (Nat → Int)} {σ : Sg} {K : Kt}, TV σ t T → p + k = nP T → PL σ t T gn mx p h → lawful (hom T h) = true → (∀ q, p ≤ q → q < nP T → h q = 9) → (0 ≤ sum ∧ sum ≤ 99 * p) → BE σ T b → (-1 ≤ b.1 ∧ b.1 ≤ 1000) → (∀ σ', Ex [48, 49, 50, 51, t + 8] σ σ' → PL σ' t T gn mx p h → BE σ' T (fs T gn k p h sum b) → (-1 ≤ (fs T gn k p h sum b).1 ∧ (fs T gn k p h sum b).1 ≤ 1000) → K 0 σ') → wpCall (d + k + 3) iX1_placeFrom [aR 48, aR t, aI (p : Nat), aI sum] σ K := by
  intro k
  induction k with
  | zero =>
    intro d p h sum b σ K hv hpk hpl hl h9 hs hb hbr hk
    obtain ⟨ht, ⟨e0, e3, e9, e10, e11⟩, eh, ew, ep⟩ := id hv
    obtain ⟨l1, l2, l3, l4, l5, l6, l7, l8⟩ := tw_len ht
    obtain ⟨⟨⟨a1, a2⟩, ⟨a3, a4⟩, ⟨a5, a6⟩, ⟨a7, a8⟩, a9⟩, wh, ww, wp⟩ := id hw
    have hnP : ((nP T : Nat) : Int) = T 0 1 := Int.toNat_of_nonneg a3
    have hnS : ((nS T : Nat) : Int) = T 0 0 := Int.toNat_of_nonneg a1
    have l54 : LEN 54 = 9 := rfl
    obtain ⟨p49, p51, p8, p52, p53, p54⟩ := id hpl
    have e54 : σ 54 p = 0 := by rw [p54 p (by omega), show nP T - p = 0 by omega]; rfl
    refine bX1_placeFrom ?_
    rw [Int.toNat_natCast, e54, Int.add_zero, wr_id (x := sum) ⟨by omega, by omega⟩, hb.1]
    refine ⟨ht, fun q => absurd q (by omega), fun _ => ⟨by omega, by omega, fun q => ⟨ht, fun _ => ⟨by decide, by decide, by decide, by decide, by decide, by decide, by decide, ?_⟩, fun z => absurd z (by omega)⟩, fun q => hk σ Ex.rf hpl ?_ ?_⟩⟩
    · have ef : fs T gn 0 p h sum b = (sum, h) := by show (if _ then _ else _) = _; rw [if_pos q]
      rw [ef] at hk
      refine hk _ (fun a ha j => ?_) ⟨fun q hq => ?_, fun s hs => ?_, fun o ho => ?_, fun q hq => ?_, fun q s hq hs => ?_, fun q hq => ?_⟩ ⟨?_, fun q hq => ?_⟩ ⟨by show -1 ≤ sum; omega, by show sum ≤ 1000; omega⟩
      · rw [cpy_ne (by rintro rfl; exact ha (by simp)), up_ne (by rintro rfl; exact ha (by simp))]
      · rw [cpy_ne (by omega), up_ne (by omega)]; exact p49 q hq
      · rw [cpy_ne (by omega), up_ne (by omega)]; exact p51 s hs
      · have := tw_le ht
        rw [cpy_ne (by omega), up_ne (by omega)]; exact p8 o ho
      · rw [cpy_ne (by omega), up_ne (by omega)]; exact p52 q hq
      · rw [cpy_ne (by omega), up_ne (by omega)]; exact p53 q s hq hs
      · rw [cpy_ne (by omega), up_ne (by omega)]; exact p54 q hq
      · rw [cpy_ne (by omega), up_self]
      · rw [cpy_0 (by omega), up_ne (by omega)]; exact p49 q (by omega)
    · have ef : fs T gn 0 p h sum b = b := by show (if _ then _ else _) = _; rw [if_neg q]
      rw [ef]; exact hb
    · have ef : fs T gn 0 p h sum b = b := by show (if _ then _ else _) = _; rw [if_neg q]
      rw [ef]; exact hbr
  | succ k ih =>
    intro d p h sum b σ K hv hpk hpl hl h9 hs hb hbr hk
    obtain ⟨ht, ⟨e0, e3, e9, e10, e11⟩, eh, ew, ep⟩ := id hv
    obtain ⟨l1, l2, l3, l4, l5, l6, l7, l8⟩ := tw_len ht
    obtain ⟨⟨⟨a1, a2⟩, ⟨a3, a4⟩, ⟨a5, a6⟩, ⟨a7, a8⟩, a9⟩, wh, ww, wp⟩ := id hw
    have hnP : ((nP T : Nat) : Int) = T 0 1 := Int.toNat_of_nonneg a3
    have hnS : ((nS T : Nat) : Int) = T 0 0 := Int.toNat_of_nonneg a1
    have l54 : LEN 54 = 9 := rfl
    have l49 : LEN 49 = 8 := rfl
    have l51 : LEN 51 = 5 := rfl
    have l52 : LEN 52 = 8 := rfl
    have l53 : LEN 53 = 40 := rfl
    have htl := tw_le ht
    obtain ⟨p49, p51, p8, p52, p53, p54⟩ := id hpl
    have hpT : (p : Int) < T 0 1 := by omega
    have hpn : p < nP T := by omega
    have e54 := p54 p (by omega)
    rw [show nP T - p = k + 1 by omega] at e54
    have hh := hope_r hmx (k + 1) p
    have hcap : sum + hope mx (k + 1) p ≤ 1000 := by
      have e99 : 99 * ((k + 1 : Nat) : Int) = 99 * (k : Int) + 99 := by push_cast; omega
      omega
    refine bX1_placeFrom ?_
    rw [Int.toNat_natCast, e54, wr_id (x := sum + hope mx (k + 1) p) ⟨by omega, by omega⟩, hb.1]
    refine ⟨ht, fun q => absurd q (by omega), fun _ => ⟨by omega, by omega, fun q => ⟨ht, fun z => absurd z (by omega), fun _ => ?_⟩, fun q => ?_⟩⟩
    · have key : ∀ j s : Nat, s + j = nS T → ∀ (σ1 : Sg) (b1 : Int × (Nat → Int)), Ex [48, 49, 50, 51, t + 8] σ σ1 → PL σ1 t T gn mx p h → BE σ1 T b1 → (-1 ≤ b1.1 ∧ b1.1 ≤ 1000) → fsL (fs T gn k (p + 1)) T gn p h sum j s b1 = fsL (fs T gn k (p + 1)) T gn p h sum (nS T) 0 b → wpL (wpCall (d + (k + 1) + 2)) mX1_placeFrom K 56 [aR 48, aR t, aI (p : Nat), aI sum, aI (s : Nat)] [] σ1 := by
        intro j
        induction j with
        | zero =>
          intro s hs1 σ1 b1 he1 hpl1 hb1 hbr1 hf
          have hv1 := tv_pl hv he1 (by simp <;> omega)
          obtain ⟨-, ⟨f0, f3, -⟩, -⟩ := id hv1
          refine bX1_placeFrom_56 ⟨ht, fun h => absurd h (by omega), fun _ => ⟨by omega, by omega, ?_⟩⟩
          rw [wr1 (by omega), Int.toNat_natCast]
          have hh9 : hu h p 9 = h := hu_id (h9 p (by omega) hpn)
          have hpl2 : PL (up σ1 49 p 9) t T gn mx (p + 1) h := by
            obtain ⟨q49, q51, q8, q52, q53, q54⟩ := hpl1
            refine ⟨fun x hx => ?_, fun x hx => ?_, fun x hx => ?_, fun x hx => ?_, fun x y hx hy => ?_, fun x hx => ?_⟩
            · by_cases e : x = p
              · subst e; rw [up_self]; exact (h9 x (by omega) hpn).symm
              · rw [up_nk e]; exact q49 x (by omega)
            · rw [up_ne (by omega)]; exact q51 x hx
            · rw [up_ne (by omega)]; exact q8 x hx
            · rw [up_ne (by omega)]; exact q52 x hx
            · rw [up_ne (by omega)]; exact q53 x y hx hy
            · rw [up_ne (by omega)]; exact q54 x hx
          have he2 : Ex [48, 49, 50, 51, t + 8] σ (up σ1 49 p 9) := he1.up (by simp)
          refine ih (d := d) (b := b1) (tv_pl hv he2 (by simp <;> omega)) (by omega) hpl2 hl (fun q h1 h2 => h9 q (by omega) h2) (by push_cast; omega) ⟨by rw [up_ne (by omega)]; exact hb1.1, fun q hq => by rw [up_ne (by omega)]; exact hb1.2 q hq⟩ hbr1 (fun σ' he' hpl' hb' hbr' => ?_)
          have ef : fs T gn (k + 1) p h sum b = fs T gn k (p + 1) h sum b1 := by
            show fs T gn k (p + 1) (hu h p 9) sum _ = _
            rw [← hf, hh9]; rfl
          refine hk σ' (he2.tr he' (fun _ h => h) (fun _ h => h)) ?_ (by rw [ef]; exact hb') (by rw [ef]; exact hbr')
          obtain ⟨q49, q⟩ := hpl'
          exact ⟨fun x hx => q49 x (by omega), q⟩
        | succ j ihj =>
          intro s hs1 σ1 b1 he1 hpl1 hb1 hbr1 hf
          have hv1 := tv_pl hv he1 (by simp <;> omega)
          obtain ⟨-, ⟨f0, f3, -⟩, -⟩ := id hv1
          have hsT : (s : Int) < T 0 0 := by omega
          have hp9 := h9 p (by omega) hpn
          refine bX1_placeFrom_56 ⟨ht, fun _ => s_fits hv1 hw hpT hsT hpl1 h9 hl (fun y => br_f2 (by decide) ?_) (fun y => br_t2 rfl ?_), fun h => absurd h (by omega)⟩
          · obtain ⟨q49, q51, q8, q52, q53, q54⟩ := id hpl1
            have cr := crowd_hu (T := T) (x := s) (s := s) hpn hp9 (show s < 9 by omega)
            have crn : ∀ x : Nat, (x : Int) < T 0 0 → crowd (hom T (hu h p s)) x = crowd (hom T h) x + b2i (decide (s = x)) := fun x hx => crowd_hu hpn hp9 (by omega)
            have cr0 := cnt_r (fun p => decide (hom T h 7 p = s)) (nP (hom T h))
            have hcs : crowd (hom T h) s = cnt (fun p => decide (hom T h 7 p = s)) (nP (hom T h)) := rfl
            rw [nP_hom] at cr0 hcs
            rw [Int.toNat_natCast, Int.toNat_natCast, ix5 (by omega) (by omega), Int.toNat_natCast]
            rw [up_ne (show (51 : Nat) ≠ 49 by omega), up_ne (show (52 : Nat) ≠ 51 by omega), up_ne (show (52 : Nat) ≠ 49 by omega), q51 s hsT, q52 p hpT, wr1 (by omega)]
            refine ⟨by omega, by omega, by omega, by omega, by omega, by omega, by omega, by omega, ht, ?_⟩
            have hv2 : TV (up (up σ1 49 p s) 51 s (wr (crowd (hom T h) s + 1))) t T := tv_pl hv ((he1.up (a := 49) (by simp)).up (by simp)) (by simp <;> omega)
            refine s_addLoad hv2 hw hsT (fun σ2 he2 hz2 => ⟨by omega, by omega, ?_⟩)
            have he2' : Ex [48, 49, 50, 51, t + 8] σ σ2 := ((he1.up (by simp)).up (by simp)).tr he2 (fun _ h => h) (by simp)
            have o2 : ∀ a, a ≠ t + 8 → ∀ x, σ2 a x = up (up σ1 49 p s) 51 s (wr (crowd (hom T h) s + 1)) a x := fun a ha x => he2 a (by simpa using ha) x
            have e53 : σ2 53 (5 * p + s) = gn p s := by rw [o2 53 (by omega), up_ne (by omega), up_ne (by omega)]; exact q53 p s hpT hsT
            have hgp := hg p s
            rw [e53, wr_id (x := sum + gn p s) ⟨by omega, by omega⟩]
            have hw1 : wr (crowd (hom T h) s + 1) = crowd (hom T (hu h p s)) s := by
              rw [cr, wr_id ⟨by omega, by omega⟩]; simp [b2i]
            rw [hw1] at o2 hz2
            clear hw1
            have hpl2 : PL σ2 t T gn mx (p + 1) (hu h p s) := by
              refine ⟨fun x hx => ?_, fun x hx => ?_, fun x hx => ?_, fun x hx => ?_, fun x z hx hz => ?_, fun x hx => ?_⟩
              · rw [o2 49 (by omega), up_ne (by omega)]
                by_cases e : x = p
                · subst e; rw [up_self, hu_s]
                · rw [up_nk e, hu_n e]; exact q49 x (by omega)
              · rw [o2 51 (by omega)]
                by_cases e : x = s
                · subst e; rw [up_self]
                · rw [up_nk e, up_ne (by omega), q51 x hx, crn x hx]
                  have : ¬ s = x := fun z => e z.symm
                  simp [this, b2i]
              · rw [hz2 x hx, up_ne (by omega), up_ne (by omega), q8 x hx]
                have hcl : cntL (hom T (hu h p s)) x = fun c => cntL (hom T h) x c + b2i (tog T s x && bit (own T p) c) := funext fun c => cntL_hu hpn hp9 (by omega)
                rw [hcl]
                by_cases g : tog T s x = true
                · rw [if_pos g, g, lod]
                  have e1 : ∀ x y : Int, wr (wr x + y) = wr (x + y) := fun x y => by unfold wr; omega
                  rw [e1, ← pkI_add]
                  simp only [Bool.true_and]
                · rw [if_neg g, show tog T s x = false by simpa using g]
                  simp [b2i]
              · rw [o2 52 (by omega), up_ne (by omega), up_ne (by omega)]; exact q52 x hx
              · rw [o2 53 (by omega), up_ne (by omega), up_ne (by omega)]; exact q53 x z hx hz
              · rw [o2 54 (by omega), up_ne (by omega), up_ne (by omega)]; exact q54 x hx
            refine ih (d := d) (b := b1) (tv_pl hv he2' (by simp <;> omega)) (by omega) hpl2 y (fun q h1 h2 => by rw [hu_n (by omega)]; exact h9 q (by omega) h2) (by push_cast; omega) ⟨by rw [o2 48 (by omega), up_ne (by omega), up_ne (by omega)]; exact hb1.1, fun q hq => by rw [o2 50 (by omega), up_ne (by omega), up_ne (by omega)]; exact hb1.2 q hq⟩ hbr1 (fun σ3 he3 hpl3 hb3 hbr3 => ⟨by omega, by omega, ht, ?_⟩)
            have he3' : Ex [48, 49, 50, 51, t + 8] σ σ3 := he2'.tr he3 (fun _ h => h) (fun _ h => h)
            obtain ⟨w49, w51, w8, w52, w53, w54⟩ := id hpl3
            rw [w52 p hpT]
            refine s_addLoad (tv_pl hv he3' (by simp <;> omega)) hw hsT (fun σ4 he4 hz4 => ⟨by omega, by omega, by omega, by omega, ?_⟩)
            have he4' : Ex [48, 49, 50, 51, t + 8] σ σ4 := he3'.tr he4 (fun _ h => h) (by simp)
            have o4 : ∀ a, a ≠ t + 8 → ∀ x, σ4 a x = σ3 a x := fun a ha x => he4 a (by simpa using ha) x
            rw [o4 51 (by omega), w51 s hsT, wr1 (by omega)]
            have hw2 : wr (crowd (hom T (hu h p s)) s - 1) = crowd (hom T h) s := by
              rw [cr, wr_id (x := _ - 1) ⟨by simp [b2i]; omega, by simp [b2i]; omega⟩]; simp [b2i]
            rw [hw2]
            clear hw2
            have ef : fsL (fs T gn k (p + 1)) T gn p h sum (j + 1) s b1 = fsL (fs T gn k (p + 1)) T gn p h sum j (s + 1) (fs T gn k (p + 1) (hu h p s) (sum + gn p s) b1) := by
              show fsL _ T gn p h sum j (s + 1) (if _ then _ else _) = _
              rw [if_pos y]
            refine ihj (s + 1) (by omega) _ (fs T gn k (p + 1) (hu h p s) (sum + gn p s) b1) (he4'.up (by simp)) ⟨fun x hx => ?_, fun x hx => ?_, fun x hx => ?_, fun x hx => ?_, fun x z hx hz => ?_, fun x hx => ?_⟩ ⟨?_, fun q hq => ?_⟩ hbr3 (by rw [← hf, ef])
            · rw [up_ne (by omega), o4 49 (by omega), w49 x (by omega), hu_n (by omega)]
            · by_cases e : x = s
              · subst e; rw [up_self]
              · rw [up_nk e, o4 51 (by omega), w51 x hx, crn x hx]
                have : ¬ s = x := fun z => e z.symm
                simp [this, b2i]
            · rw [up_ne (by omega), hz4 x hx, w8 x hx]
              have hcl : cntL (hom T (hu h p s)) x = fun c => cntL (hom T h) x c + b2i (tog T s x && bit (own T p) c) := funext fun c => cntL_hu hpn hp9 (by omega)
              rw [hcl]
              by_cases g : tog T s x = true
              · rw [if_pos g, g, lod]
                simp only [Bool.true_and]
                exact pk_neg _ _
              · rw [if_neg g, show tog T s x = false by simpa using g]
                simp [b2i]
            · rw [up_ne (by omega), o4 52 (by omega)]; exact w52 x hx
            · rw [up_ne (by omega), o4 53 (by omega)]; exact w53 x z hx hz
            · rw [up_ne (by omega), o4 54 (by omega)]; exact w54 x hx
            · rw [up_ne (by omega), o4 48 (by omega)]; exact hb3.1
            · rw [up_ne (by omega), o4 50 (by omega)]; exact hb3.2 q hq
          · rw [wr1 (by omega)]
            refine ihj (s + 1) (by omega) σ1 b1 he1 hpl1 hb1 hbr1 ?_
            rw [← hf]
            show _ = fsL _ T gn p h sum j (s + 1) (if _ then _ else _)
            rw [y]; rfl
      exact key (nS T) 0 (by omega) σ b Ex.rf hpl hb hbr rfl
    · have ef : fs T gn (k + 1) p h sum b = b := fs_prune hm (fun q => (hmx q).1) (k + 1) p h sum b (by omega)
      rw [ef] at hk
      exact hk σ Ex.rf hpl hb hbr
/-- the first best living -/
def fsB (T : Sg) (gn : Nat → Nat → Int) : Int × (Nat → Int) := fs T gn (nP T) 0 (fun _ => 9) 0 (-1, fun _ => 9)
abbrev LPl (t : Nat) : List Nat := [48, 49, 50, 51, 52, 54, t + 8]
theorem s_search {d t : Nat} {σ T : Sg} {gn : Nat → Nat → Int} {K : Kt} (hv : TV σ t T) (hw : WF T) (hg : ∀ q s, 0 ≤ gn q s ∧ gn q s ≤ 99) (hG : GN σ T gn) (hk : ∀ σ', Ex (LPl t) σ σ' → (∀ q : Nat, (q : Int) < T 0 1 → σ' 50 q = (fsB T gn).2 q) → K (fsB T gn).1 σ') : wpCall (d + 8 + 4) iX1_search [aR 48, aR t] σ K := by
  obtain ⟨ht, ⟨e0, e3, e9, e10, e11⟩, eh, ew, ep⟩ := id hv
  obtain ⟨l1, l2, l3, l4, l5, l6, l7, l8⟩ := tw_len ht
  obtain ⟨⟨⟨a1, a2⟩, ⟨a3, a4⟩, ⟨a5, a6⟩, ⟨a7, a8⟩, a9⟩, wh, ww, wp⟩ := id hw
  have hnP : ((nP T : Nat) : Int) = T 0 1 := Int.toNat_of_nonneg a3
  have hnS : ((nS T : Nat) : Int) = T 0 0 := Int.toNat_of_nonneg a1
  have l54 : LEN 54 = 9 := rfl
  have l52 : LEN 52 = 8 := rfl
  have htl := tw_le ht
  have hgm := fun q => gmx_r (T := T) (hg q) (nS T)
  refine bX1_search (s_fill (by decide) (by decide) (fun σ1 he1 hz1 => ⟨ht, s_fill (by omega) (by omega) (fun σ2 he2 hz2 => ?_)⟩))
  have he12 : Ex (LPl t) σ σ2 := he1.tr he2 (by simp) (by simp)
  have hv2 := tv_pl hv he12 (by simp <;> omega)
  obtain ⟨-, ⟨f0, f3, -⟩, -⟩ := id hv2
  rw [f3, up_ne (show t ≠ 54 by omega), f3]
  have e51 : ∀ s : Nat, (s : Int) < T 0 0 → σ2 51 s = 0 := fun s hs => by
    rw [he2 51 (by simp <;> omega)]; exact hz1 s (by have : LEN 51 = 5 := rfl; omega)
  refine ⟨ht, by omega, by omega, ht, ?_⟩
  have h00 : ∀ s : Nat, (s : Int) < T 0 0 → crowd (hom T fun _ => 9) s = 0 := fun s hs => by
    have := (lawful_iff.mp (lawful_9 hw)).1
    unfold crowd
    rw [hom7]
    have : ∀ n, cnt (fun _ => decide ((9 : Int) = s)) n = 0 := by
      intro n
      induction n with
      | zero => rfl
      | succ n ih => rw [cnt_f (by simp <;> omega), ih]
    exact this _
  have h0c : ∀ s : Nat, cntL (hom T fun _ => 9) s = fun _ => 0 := fun s => by
    funext c
    unfold cntL
    rw [hom7]
    have : ∀ n, cnt (fun p => !decide ((9 : Int) = 9) && (tog (hom T fun _ => 9) (9 : Int).toNat s && bit (own (hom T fun _ => 9) p) c)) n = 0 := by
      intro n
      induction n with
      | zero => rfl
      | succ n ih => rw [cnt_f (by simp), ih]
    exact this _
  have key : ∀ p : Nat, p ≤ nP T → ∀ σ3, Ex [52, 54] σ2 σ3 → (∀ q : Nat, p ≤ q → (q : Int) < T 0 1 → σ3 52 q = lod (own T q)) → (∀ q : Nat, p ≤ q → (q : Int) ≤ T 0 1 → σ3 54 q = hope (fun q => gmx T gn q (nS T)) (nP T - q) q) → wpL (wpCall (d + 8 + 3)) mX1_search K 33 [aR 48, aR t, aI ((p : Int) - 1)] [] σ3 := by
    intro p
    induction p with
    | zero =>
      intro hp σ3 he3 g52 g54
      refine bX1_search_33 ⟨fun _ => ?_, fun h => absurd h (by omega)⟩
      have heA : Ex (LPl t) σ (up σ3 48 6 (-1)) := (he12.tr he3 (fun _ h => h) (by simp)).up (by simp)
      have o3 : ∀ a, a ≠ 52 → a ≠ 54 → ∀ x, σ3 a x = σ2 a x := fun a h1 h2 x => he3 a (by simp [h1, h2]) x
      have hG2 : ∀ q s : Nat, (q : Int) < T 0 1 → (s : Int) < T 0 0 → σ3 53 (5 * q + s) = gn q s := fun q s hq hs => by
        rw [o3 53 (by omega) (by omega), he12 53 (by simp <;> omega)]; exact hG q s hq hs
      have hgo := s_placeFrom (t := t) (T := T) (gn := gn) (mx := fun q => gmx T gn q (nS T)) hw hg (fun q s hs => (hgm q).2 s hs) (fun q => (hgm q).1) (nP T) (d := d + 8 - nP T) (p := 0) (h := fun _ => 9) (sum := 0) (b := (-1, fun q => σ3 50 q)) (σ := up σ3 48 6 (-1)) (K := fun r1 s1 => K (s1 48 6) s1) (tv_pl hv heA (by simp <;> omega)) (by omega) ⟨fun q hq => by omega, fun s hs => by rw [up_ne (by omega), o3 51 (by omega) (by omega), e51 s hs, h00 s hs], fun o ho => by rw [up_ne (by omega), o3 (t + 8) (by omega) (by omega), hz2 o (by omega), h0c o]; rfl, fun q hq => by rw [up_ne (by omega)]; exact g52 q (by omega) hq, fun q s hq hs => by rw [up_ne (by omega)]; exact hG2 q s hq hs, fun q hq => by rw [up_ne (by omega)]; exact g54 q (by omega) hq⟩ (lawful_9 hw) (fun q _ _ => rfl) ⟨by omega, by simp⟩ ⟨up_self, fun q hq => by rw [up_ne (by omega)]⟩ ⟨by simp, by simp⟩ (fun σ' he' hpl' hb' hbr' => ?_)
      · rw [show d + 8 - nP T + nP T + 3 = d + 8 + 3 by omega] at hgo
        exact hgo
      · have ef : fs T gn (nP T) 0 (fun _ => 9) 0 (-1, fun q => σ3 50 q) = fsB T gn := fs_init (fun q s => (hg q s).1) (nP T) 0 _ 0 _ _ (by omega) (Or.inr ⟨rfl, rfl⟩)
        rw [ef] at hb'
        show K (σ' 48 6) σ'
        rw [hb'.1]
        exact hk σ' (heA.tr he' (fun _ h => h) (by simp)) hb'.2
    | succ p ihp =>
      intro hp σ3 he3 g52 g54
      have heA : Ex (LPl t) σ σ3 := he12.tr he3 (fun _ h => h) (by simp)
      have hv3 := tv_pl hv heA (by simp <;> omega)
      have ep1 : ((p + 1 : Nat) : Int) - 1 = (p : Int) := by push_cast; omega
      rw [ep1]
      have hpT : (p : Int) < T 0 1 := by omega
      refine bX1_search_33 ⟨fun h => absurd h (by omega), fun _ => ⟨ht, s_loadOf hv3 hw hpT ⟨by omega, by omega, ?_⟩⟩⟩
      rw [wr1 (by omega), Int.toNat_natCast, Int.toNat_natCast]
      have he4 : Ex [52, 54] σ2 (up σ3 52 p (lod (own T p))) := he3.up (by simp)
      have heB : Ex (LPl t) σ (up σ3 52 p (lod (own T p))) := heA.up (by simp)
      have hG3 : GN (up σ3 52 p (lod (own T p))) T gn := fun q s hq hs => by
        rw [heB 53 (by simp <;> omega)]; exact hG q s hq hs
      refine ⟨by omega, by omega, s_greatestGain (tv_pl hv heB (by simp <;> omega)) hw hpT hG3 ⟨by omega, by omega, ?_⟩⟩
      have e54 : up σ3 52 p (lod (own T p)) 54 (p + 1) = hope (fun q => gmx T gn q (nS T)) (nP T - (p + 1)) (p + 1) := by
        rw [up_ne (by omega)]; exact g54 (p + 1) (by omega) (by push_cast; omega)
      have hh := hope_r (fun q => (hgm q).1) (nP T - (p + 1)) (p + 1)
      have hh2 := (hgm p).1
      have hcap : 99 * ((nP T - (p + 1) : Nat) : Int) ≤ 99 * 8 := by omega
      rw [e54, wr_id (x := hope (fun q => gmx T gn q (nS T)) (nP T - (p + 1)) (p + 1) + gmx T gn p (nS T)) ⟨by omega, by omega⟩, show wr ((p : Int) + -1) = (p : Int) - 1 from wrs1 (by omega)]
      refine ihp (by omega) _ (he4.up (by simp)) (fun q hq1 hq2 => ?_) (fun q hq1 hq2 => ?_)
      · rw [up_ne (by omega)]
        by_cases e : q = p
        · subst e; rw [up_self]
        · rw [up_nk e]; exact g52 q (by omega) hq2
      · by_cases e : q = p
        · subst e
          rw [up_self, show nP T - q = (nP T - (q + 1)) + 1 by omega]
          show _ = _ + _
          exact Int.add_comm _ _
        · rw [up_nk e, up_ne (by omega)]; exact g54 q (by omega) hq2
  rw [show wr (T 0 1 - 1) = ((nP T : Nat) : Int) - 1 by rw [← hnP]; exact wrs1 (by omega)]
  refine key (nP T) (Nat.le_refl _) _ (Ex.rf.up (by simp)) (fun q h1 h2 => by omega) (fun q h1 h2 => ?_)
  have : q = nP T := by omega
  subst this
  rw [show (T 0 1).toNat = nP T from rfl, up_self, Nat.sub_self]
  rfl
def gn1 : Nat → Nat → Int := fun _ _ => 1
def gnW (T : Sg) : Nat → Nat → Int := fun q s => if (q : Int) < T 0 1 ∧ (s : Int) < T 0 0 then T 6 (5 * q + s) else 0
abbrev LMo (t : Nat) : List Nat := [48, 49, 50, 51, 52, 53, 54, t + 8]
theorem s_largest {d t : Nat} {σ T : Sg} {K : Kt} (hv : TV σ t T) (hw : WF T) (hk : ∀ σ', Ex (LMo t) σ σ' → (∀ q : Nat, (q : Int) < T 0 1 → σ' 50 q = (fsB T gn1).2 q) → K (fsB T gn1).1 σ') : wpCall (d + 8 + 5) iX1_largest [aR 48, aR t] σ K := by
  have htl := tw_le hv.1
  refine bX1_largest (s_fill (by decide) (by decide) (fun σ1 he1 hz1 => s_search (tv_pl hv he1 (by simp)) hw (fun q s => by unfold gn1; omega) (fun q s hq hs => ?_) (fun σ2 he2 h2 => hk σ2 (he1.tr he2 (by simp) (by simp <;> omega)) h2)))
  have := hw.1.2.1
  have := hw.1.1
  exact hz1 _ (by have : LEN 53 = 40 := rfl; push_cast; omega)
theorem s_dearest {d t : Nat} {σ T : Sg} {K : Kt} (hv : TV σ t T) (hw : WF T) (hk : ∀ σ', Ex (LMo t) σ σ' → (∀ q : Nat, (q : Int) < T 0 1 → σ' 50 q = (fsB T (gnW T)).2 q) → K (fsB T (gnW T)).1 σ') : wpCall (d + 8 + 5) iX1_dearest [aR 48, aR t] σ K := by
  obtain ⟨ht, ⟨e0, e3, e9, e10, e11⟩, eh, ew, ep⟩ := id hv
  obtain ⟨l1, l2, l3, l4, l5, l6, l7, l8⟩ := tw_len ht
  obtain ⟨⟨⟨a1, a2⟩, ⟨a3, a4⟩, ⟨a5, a6⟩, ⟨a7, a8⟩, a9⟩, wh, ww, wp⟩ := id hw
  have hnP : ((nP T : Nat) : Int) = T 0 1 := Int.toNat_of_nonneg a3
  have hnS : ((nS T : Nat) : Int) = T 0 0 := Int.toNat_of_nonneg a1
  have htl := tw_le ht
  have l53 : LEN 53 = 40 := rfl
  have he1 : Ex [53] σ (cpy σ (t + 6) 0 53 0 40) := fun a ha k => cpy_ne (by simpa using ha)
  refine bX1_dearest ⟨ht, by decide, by decide, by decide, by omega, by decide, by omega, by decide, s_search (tv_pl hv he1 (by simp)) hw (fun q s => ?_) (fun q s hq hs => ?_) (fun σ2 he2 h2 => hk σ2 (he1.tr he2 (by simp) (by simp <;> omega)) h2)⟩
  · unfold gnW
    split
    · next z => exact (wp q z.1).2.2.2.2 s z.2
    · omega
  · rw [cpy_0 (by omega), (ep q hq).2.2.2.2 s hs]
    unfold gnW
    rw [if_pos ⟨hq, hs⟩]
