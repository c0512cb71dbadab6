/-! THE CLASS READS A TOWN -/
theorem DOq.c01 {σ : Sg} {t : Nat} {K : Kt} {o : Option Sg} (h : DOq σ t K o) : DOq σ t (fun r s => (r = 0 ∨ r = 1) ∧ K r s) o := by
  cases o with
  | none => exact ⟨Or.inl rfl, h⟩
  | some T' => exact fun σ' a b c => ⟨Or.inr rfl, h σ' a b c⟩
theorem s_doStatement {d t n p : Nat} {l : Int} {R : RSt} {σ T : Sg} {K : Kt} (hv : TV σ t T) (hw : WF T) (hx : CX σ t) (hf : FLD σ l R) (hr : RK l n p R) (hok : R.ok = true) (hQ : DOq σ t K (doS l R T)) : wpCall (d + 4) iX4_doStatement [aR 46, aR t] σ K := by
  have hQ := hQ.c01
  have hl := (hr.2 hok).1
  refine bX4_doStatement ?_
  rw [hf.1]
  refine ⟨fun q => ?_, fun q => by omega, fun q => by omega, fun q => by omega, fun q => ?_, fun q => by omega, fun q => by omega, fun q => ?_, fun q => by omega, fun q => by omega, fun q => by omega, fun q => ?_, fun q => by omega, fun q => ?_, fun q => ?_⟩
  · subst q; exact s_doLaw (d := d + 1) hv hw hx hf hr hok hQ
  · subst q; exact s_doPerson (d := d) hv hw hx hf hr hok hQ
  · subst q; exact s_doStreet (d := d) hv hw hx hf hr hok hQ
  · subst q; exact s_doWish (d := d + 1) hv hw hx hf hr hok hQ
  · subst q; exact s_doWay (d := d + 1) hv hw hx hf hr hok hQ
  · exact s_doLives (d := d + 1) hv hw hx (by omega) hf hr hok hQ
theorem TX.ex {σ σ' : Sg} {c n p : Nat} {b : Nat → Int} {l : List Nat} (h : TX σ c b n p) (he : Ex l σ σ') (h1 : 46 ∉ l) (h2 : c ∉ l) : TX σ' c b n p := by
  obtain ⟨a, b1, b2, b3, b4⟩ := h
  exact ⟨a, by rw [he _ h1]; exact b1, by rw [he _ h1]; exact b2, by rw [he _ h1]; exact b3, fun i hi => by rw [he _ h2]; exact b4 i hi⟩
theorem pas1_s (B : Nat → Int) (n f p c : Nat) : pas1 B n (f + 1) p c = if (stm B p).ok then if (stm B p).p < n then pas1 B n f (stm B p).p (c + 1) else (true, c + 1) else (false, (stm B p).p) := rfl
theorem pas2_s (B : Nat → Int) (m p : Nat) (T : Sg) : pas2 B (m + 1) p T = match doS (B p) (stm B p) T with
    | none => ((false, p), T)
    | some T' => pas2 B m (stm B p).p T' := rfl
theorem wrm {q : Nat} {k : Int} (h : q ≤ 100) (hk : -5000 ≤ k ∧ k ≤ 0) : wr (k - (q : Nat)) = k - (q : Nat) := wr_id ⟨by omega, by omega⟩
theorem s_readInto {d t h n : Nat} {σ T : Sg} {K : Kt} (hv : TV σ t T) (hw : WF T) (hx : CX σ t) (hS : SHF h) (hn : σ h 3 = (n : Nat)) (hn2 : n ≤ 100) (hb : BR (σ (h + 2)) n)
    (h1 : ∀ q, pas1 (byt (σ (h + 2)) n) n 101 0 0 = (false, q) → q ≤ 100 → ∀ σ', Ex (46 :: L8 t) σ σ' → K (-1000 - (q : Nat)) σ')
    (h2 : ∀ m q T', pas1 (byt (σ (h + 2)) n) n 101 0 0 = (true, m) → pas2 (byt (σ (h + 2)) n) m 0 T = ((false, q), T') → q ≤ 100 → ∀ σ', Ex (46 :: L8 t) σ σ' → K (-2000 - (q : Nat)) σ')
    (h3 : ∀ m q T', pas1 (byt (σ (h + 2)) n) n 101 0 0 = (true, m) → pas2 (byt (σ (h + 2)) n) m 0 T = ((true, q), T') → WF T' → ∀ σ', Ex (46 :: L8 t) σ σ' → TV σ' t T' → CX σ' t → K (m : Nat) σ') : wpCall (d + 6) iX4_readInto [aR 46, aR t, aR h] σ K := by
  obtain ⟨s1, s2, s3, s4⟩ := shf_r hS
  have ht := tw_cases hv.1
  generalize hbb : σ (h + 2) = b at *
  have l46 : 46 ∉ L8 t := by simp; omega
  have lc : h + 2 ∉ L8 t := by simp; omega
  have lc2 : h + 2 ∉ [46] := by simp; omega
  refine bX4_readInto ⟨hS, by omega, hS, ?_⟩
  have hx0 : TX (up (up (up σ 46 0 (Int.ofNat (h + 2))) 46 1 (up σ 46 0 (Int.ofNat (h + 2)) h 3)) 46 2 0) (h + 2) b n 0 := by
    refine ⟨⟨by omega, s3, hn2, by omega, hb⟩, ?_, ?_, up_self, fun i hi => ?_⟩
    · rw [up_nk (by omega), up_nk (by omega), up_self]; rfl
    · rw [up_nk (by omega), up_self, up_ne (by omega)]; exact hn
    · rw [up_ne (by omega), up_ne (by omega), up_ne (by omega), hbb]
  have he0 : Ex [46] σ (up (up (up σ 46 0 (Int.ofNat (h + 2))) 46 1 (up σ 46 0 (Int.ofNat (h + 2)) h 3)) 46 2 0) := ((Ex.rf.up (by simp)).up (by simp)).up (by simp)
  have tv : ∀ {σ1}, Ex [46] σ σ1 → TV σ1 t T := fun h => hv.ex h (fun i hi => by simp; omega)
  -- the second time
  have key2 : ∀ M, pas1 (byt b n) n 101 0 0 = (true, M) → ∀ m y p T1 σ1, y + m = M → Chn (byt b n) n m p → pas2 (byt b n) m p T1 = pas2 (byt b n) M 0 T → Ex (46 :: L8 t) σ σ1 → TX σ1 (h + 2) b n p → TV σ1 t T1 → CX σ1 t → WF T1 → M ≤ 100 → wpL (wpCall (d + 5)) mX4_readInto K 67 [aR 46, aR t, aU, aI (M : Nat), aI (y : Nat), aU] [] σ1 := by
    intro M hM m
    induction m with
    | zero =>
      intro y p T1 σ1 hy hc hp he hx hv1 hx1 hw1 hM2
      refine bX4_readInto_67 ⟨fun z => by omega, fun _ => h3 M 0 T1 hM ?_ hw1 σ1 he hv1 hx1⟩
      rw [← hp]; rfl
    | succ m ih =>
      intro y p T1 σ1 hy hc hp he hx hv1 hx1 hw1 hM2
      have hr := RK_stm (b := b) (n := n) (p := p)
      have hp100 : p ≤ 100 := by have := hx.1.2.2.2.1; omega
      rw [pas2_s] at hp
      refine bX4_readInto_67 ⟨fun z => ?_, fun z => by omega⟩
      rw [hx.2.2.2.1, wrm hp100 (by omega), wr1 (by omega)]
      refine s_readStatement (d := d) hx (fun σ2 he2 hx2 hf2 => ?_)
      have hf2 := hf2 hc.1
      rw [hc.1]
      have e2 : Ex (46 :: L8 t) σ σ2 := he.tr he2 (fun _ h => h) (by simp)
      have hv2 : TV σ2 t T1 := hv1.ex he2 (fun i hi => by simp; omega)
      have hx3 : CX σ2 t := hx1.ex he2 (by simp; omega)
      refine ⟨fun z => absurd z (by decide), fun _ => s_doStatement (d := d + 1) hv2 hw1 hx3 hf2 hr hc.1 ?_⟩
      cases ho : doS (byt b n p) (stm (byt b n) p) T1 with
      | none =>
        rw [ho] at hp
        exact ⟨fun _ => h2 M p T1 hM hp.symm hp100 σ2 e2, fun z => absurd rfl z⟩
      | some T' =>
        rw [ho] at hp
        refine fun σ3 he3 hv3 hx3 => ⟨fun z => absurd z (by decide), fun _ => ?_⟩
        exact ih (y + 1) _ T' σ3 (by omega) hc.2 hp (e2.tr he3 (fun _ h => h) (by simp)) (hx2.ex he3 l46 lc) hv3 hx3 (WF_doS hw1 hr hc.1 ho) hM2
  have go2 : ∀ M σ1, pas1 (byt b n) n 101 0 0 = (true, M) → M ≤ 100 → Ex [46] σ σ1 → (∃ q, TX σ1 (h + 2) b n q) → wpL (wpCall (d + 5)) mX4_readInto K 67 [aR 46, aR t, aU, aI (M : Nat), aI 0, aU] [] (up σ1 46 2 0) := by
    intro M σ1 hM hM2 he ⟨q, hx1⟩
    have := (pas1_chn _ _ _ _ hM).2
    exact key2 M hM M 0 0 T _ (by omega) this rfl ((he.up (by simp)).mono (by simp)) (hx1.adv (q := 0) (by omega)) (tv (he.up (by simp))) (hx.ex (he.up (a := 46) (by simp)) (by simp; omega)) hw hM2
  have key1 : ∀ f p c σ1, n < p + f → c ≤ p → Ex [46] σ σ1 → TX σ1 (h + 2) b n p → pas1 (byt b n) n f p c = pas1 (byt b n) n 101 0 0 → wpL (wpCall (d + 5)) mX4_readInto K 23 [aR 46, aR t, aU, aI (c : Nat), aU, aU] [] σ1 := by
    intro f
    induction f with
    | zero => intro p c σ1 hf hc he hx hp; have := hx.1.2.2.2.1; omega
    | succ f ih =>
      intro p c σ1 hf hc he hx hp
      have hr := RK_stm (b := b) (n := n) (p := p)
      have hp100 : p ≤ 100 := by have := hx.1.2.2.2.1; omega
      rw [pas1_s] at hp
      refine bX4_readInto_23 (s_readStatement (d := d) hx (fun σ2 he2 hx2 hf2 => ?_))
      have q100 : (stm (byt b n) p).p ≤ n := hx2.1.2.2.2.1
      have e2 : Ex [46] σ σ2 := he.tr he2 (fun _ h => h) (fun _ h => h)
      by_cases hok : (stm (byt b n) p).ok = true
      · rw [if_pos hok] at hp
        have hr2 := (hr.2 hok).2.1
        rw [hok]
        refine ⟨fun z => absurd z (by decide), fun _ => ?_⟩
        rw [hx2.2.2.2.1, hx2.2.2.1, wr1 (by omega)]
        refine ⟨fun z => ⟨fun z2 => ?_, fun z2 => by omega⟩, fun z => ?_⟩
        · rw [if_pos (by omega)] at hp
          exact ih _ (c + 1) σ2 (by omega) (by omega) e2 hx2 hp
        · rw [if_neg (by omega)] at hp
          exact go2 (c + 1) σ2 hp.symm (by omega) e2 ⟨_, hx2⟩
      · rw [if_neg hok] at hp
        have hok : (stm (byt b n) p).ok = false := by simpa using hok
        rw [hok]
        refine ⟨fun _ => ?_, fun z => absurd rfl z⟩
        rw [hx2.2.2.2.1, wrm (by omega) (by omega)]
        exact h1 _ hp.symm (by omega) σ2 (e2.mono (by simp))
  exact key1 101 0 0 _ (by omega) (by omega) he0 hx0 rfl
