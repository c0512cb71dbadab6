/-! THE MODEL READS A TOWN -/
theorem m_copies {d a c : Nat} {σ : Sg} {K : Kt} (ha : LEN a = 107) (hc : LEN c = 107) (hne : a ≠ c) (hk : ∀ σ', Ex [c] σ σ' → (∀ k, k < 107 → σ' c k = σ a k) → K 0 σ') : wpCall (d + 1) iX7_copies [aR a, aR c] σ K := by
  refine bX7_copies (dwn (W := fun p => ∀ σ1, Ex [c] σ σ1 → (∀ k, k < p → σ1 c k = σ a k) → wpL (wpCall d) mX7_copies K 2 [aR a, aR c, aI (p : Nat)] [] σ1) 107 (fun σ1 he hi => ?_) (fun p hp ih σ1 he hi => ?_) 0 (Nat.zero_le _) σ Ex.rf (fun k hk => by omega))
  · exact bX7_copies_2 ⟨fun z => by omega, fun _ => hk σ1 he hi⟩
  · refine bX7_copies_2 ⟨fun _ => ?_, fun z => by omega⟩
    rw [wr1 (by omega), Int.toNat_natCast]
    refine ⟨by omega, by omega, by omega, by omega, ih _ (he.up (by simp)) (fun k hk2 => ?_)⟩
    by_cases e : k = p
    · rw [e, up_self, he a (by simp; omega)]
    · rw [up_nk e]; exact hi k (by omega)
/-- a row told by its first 107 places -/
theorem MV.cp {σ σ' : Sg} {a c : Nat} {T : Sg} (hw : WF T) (h : MV σ a T) (he : ∀ k, k < 107 → σ' c k = σ a k) : MV σ' c T := by
  have hv := h
  obtain ⟨⟨e0, e1, e2, e3, e4⟩, eh, ew, ep⟩ := id hv
  obtain ⟨⟨⟨a1, a2⟩, ⟨a3, a4⟩, ⟨a5, a6⟩, ⟨a7, a8⟩, a9⟩, wh, ww, wp⟩ := id hw
  have hnP : ((nP T : Nat) : Int) = T 0 1 := Int.toNat_of_nonneg a3
  have hnS : ((nS T : Nat) : Int) = T 0 0 := Int.toNat_of_nonneg a1
  refine ⟨⟨by rw [he 0 (by omega)]; exact e0, by rw [he 1 (by omega)]; exact e1, by rw [he 2 (by omega)]; exact e2, by rw [he 3 (by omega)]; exact e3, by rw [he 4 (by omega)]; exact e4⟩, fun s hs => by rw [he _ (by omega)]; exact eh s hs, fun x y hx hy => by rw [he _ (by omega)]; exact ew x y hx hy, fun q hq => ?_⟩
  obtain ⟨b1, b2, b3, b4, b5⟩ := ep q hq
  exact ⟨by rw [he _ (by omega)]; exact b1, by rw [he _ (by omega)]; exact b2, by rw [he _ (by omega)]; exact b3, by rw [he _ (by omega)]; exact b4, fun s hs => by rw [he _ (by omega)]; exact b5 s hs⟩
theorem MX.cp {σ σ' : Sg} {a c : Nat} {T : Sg} (hw : WF T) (h : MX σ a T) (he : ∀ k, k < 107 → σ' c k = σ a k) : MX σ' c T := by
  have h8 := hw.1.2.1
  exact ⟨fun x y hx hy hxy => by rw [he _ (by omega)]; exact h.1 x y hx hy hxy, fun q x hq hx hx5 => by rw [he _ (by omega)]; exact h.2 q x hq hx hx5⟩
theorem m_town38 {d n : Nat} {b : Nat → Int} {σ T : Sg} {K : Kt} (hw : WF T) (hv : MV σ 86 T) (hm : MX σ 86 T) (hx : TM σ b n 0)
    (h1 : ∀ q, pas1 (byt b n) n 101 0 0 = (false, q) → ∀ σ', Ex [85, 86, 88, 100] σ σ' → MV σ' 86 T ∧ MX σ' 86 T → K (-1000 - (q : Nat)) σ')
    (h2 : ∀ m q T', pas1 (byt b n) n 101 0 0 = (true, m) → pas2 (byt b n) m 0 T = ((false, q), T') → ∀ σ', Ex [85, 86, 88, 100] σ σ' → MV σ' 86 T ∧ MX σ' 86 T → K (-2000 - (q : Nat)) σ')
    (h3 : ∀ m q T', pas1 (byt b n) n 101 0 0 = (true, m) → pas2 (byt b n) m 0 T = ((true, q), T') → WF T' → ∀ σ', Ex [85, 86, 88, 100] σ σ' → MV σ' 86 T' ∧ MX σ' 86 T' → K (m : Nat) σ') : wpL (wpCall (d + 3)) mX7_town K 38 [aR 85, aU, aU, aI 0, aU, aU, aU] [] σ := by
  have l86 : LEN 86 = 107 := rfl
  have l88 : LEN 88 = 107 := rfl
  have key2 : ∀ M, pas1 (byt b n) n 101 0 0 = (true, M) → ∀ m p T1 σ1, Chn (byt b n) n m p → pas2 (byt b n) m p T1 = pas2 (byt b n) M 0 T → Ex [85, 88, 100] σ σ1 → TM σ1 b n p → MV σ1 88 T1 → MX σ1 88 T1 → WF T1 → wpL (wpCall (d + 3)) mX7_town K 84 [aR 85, aU, aU, aI (M : Nat), aU, aU, aU] [] σ1 := by
    intro M hM m
    induction m with
    | zero =>
      intro p T1 σ1 hc hp he hx hv1 hm1 hw1
      obtain ⟨a, g0, g1, g2, g3, g4⟩ := hx
      have hc : n ≤ p := hc
      refine bX7_town_84 ⟨fun z => by omega, fun _ => m_copies (d := d + 2) l88 l86 (by omega) (fun σ2 he2 hi2 => ?_)⟩
      exact h3 M 0 T1 hM (by rw [← hp]; rfl) hw1 σ2 (he.tr he2 (by simp) (by simp)) ⟨hv1.cp hw1 hi2, hm1.cp hw1 hi2⟩
    | succ m ih =>
      intro p T1 σ1 hc hp he hx hv1 hm1 hw1
      have hr := RK_stm (b := b) (n := n) (p := p)
      have hlt := (hr.2 hc.1).2.1
      have hle := (hr.2 hc.1).2.2.1
      have hl := hx.le
      rw [pas2_s] at hp
      refine bX7_town_84 ⟨fun _ => m_here (d := d + 2) hx (m_readsStatement (d := d) hx (fun σ2 he2 hx2 hf2 => ?_)), fun z => ?_⟩
      · have hf2 := hf2 hc.1
        have e2 : Ex [85, 88, 100] σ σ2 := he.tr he2 (fun _ h => h) (by simp)
        rw [hl.2.2.2, wrm (by omega) (by omega)]
        refine m_comes (d := d + 2) (hv1.ex (fun k => he2 88 (by simp) k)) (hm1.ex (fun k => he2 88 (by simp) k)) hw1 hf2 hr hc.1 ?_
        cases ho : doS (byt b n p) (stm (byt b n) p) T1 with
        | none =>
          rw [ho] at hp
          exact ⟨fun _ => h2 M p T1 hM hp.symm σ2 (e2.mono (by simp)) ⟨hv.ex (fun k => e2 86 (by simp) k), hm.ex (fun k => e2 86 (by simp) k)⟩, fun z => absurd rfl z⟩
        | some T' =>
          rw [ho] at hp
          refine fun σ3 he3 hv3 => ⟨fun z => absurd z (by decide), fun _ => ?_⟩
          exact ih _ T' σ3 hc.2 hp (e2.tr he3 (fun _ h => h) (by simp)) (hx2.ex he3 (by simp) (by simp)) hv3.1 hv3.2 (WF_doS hw1 hr hc.1 ho)
      · obtain ⟨a, g0, g1, g2, g3, g4⟩ := hx
        omega
  have key1 : ∀ f p c σ1, n < p + f → c ≤ p → Ex [85, 100] σ σ1 → TM σ1 b n p → pas1 (byt b n) n f p c = pas1 (byt b n) n 101 0 0 → wpL (wpCall (d + 3)) mX7_town K 38 [aR 85, aU, aU, aI (c : Nat), aU, aU, aU] [] σ1 := by
    intro f
    induction f with
    | zero => intro p c σ1 hf hc he hx hp; have := hx.le.2.1; omega
    | succ f ih =>
      intro p c σ1 hf hc he hx hp
      have hr := RK_stm (b := b) (n := n) (p := p)
      have hl := hx.le
      rw [pas1_s] at hp
      refine bX7_town_38 (m_readsStatement (d := d) hx (fun σ2 he2 hx2 hf2 => ?_))
      have hl2 := hx2.le
      have e2 : Ex [85, 100] σ σ2 := he.tr he2 (fun _ h => h) (fun _ h => h)
      have mv : ∀ {σ'}, Ex [85, 100] σ σ' → MV σ' 86 T ∧ MX σ' 86 T := fun e => ⟨hv.ex (fun k => e 86 (by simp) k), hm.ex (fun k => e 86 (by simp) k)⟩
      by_cases hok : (stm (byt b n) p).ok = true
      · rw [if_pos hok] at hp
        have hr2 := (hr.2 hok).2.1
        rw [hok]
        refine ⟨fun z => absurd z (by decide), fun _ => ?_⟩
        obtain ⟨a, g0, g1, g2, g3, g4⟩ := id hx2
        rw [g3, g2, wr1 (by omega)]
        refine ⟨fun z => ?_, fun z => ?_⟩
        · rw [if_pos (by omega)] at hp
          exact ih _ (c + 1) σ2 (by omega) (by omega) e2 hx2 hp
        · rw [if_neg (by omega)] at hp
          refine m_copies (d := d + 2) l86 l88 (by omega) (fun σ3 he3 hi3 => ?_)
          have := (pas1_chn _ _ _ _ hp.symm).2
          have m2 := mv e2
          have vb := m2.1.cp hw hi3
          have xb := m2.2.cp hw hi3
          have hx3 := hx2.ex he3 (by simp) (by simp)
          exact key2 (c + 1) hp.symm (c + 1) 0 T _ this rfl ((e2.tr (l := [85, 88, 100]) he3 (by simp) (by simp)).up (by simp)) (hx3.adv (q := 0) (by omega)) (vb.ex (fun k => up_ne (by omega))) (xb.ex (fun k => up_ne (by omega))) hw
      · rw [if_neg hok] at hp
        have hok : (stm (byt b n) p).ok = false := by simpa using hok
        rw [hok]
        refine ⟨fun _ => ?_, fun z => absurd rfl z⟩
        rw [hl2.2.2.2, wrm (by omega) (by omega)]
        exact h1 _ hp.symm σ2 (e2.mono (by simp)) (mv e2)
  exact key1 101 0 0 σ (by have := hx.le; omega) (by omega) Ex.rf hx rfl
