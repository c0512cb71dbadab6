/-! THE MODEL READS A TOWN -/
theorem m_copies {d a c : Nat} {σ : Sg} {K : Kt} (ha : LEN a = 107) (hc : LEN c = 107) (hne : a ≠ c) (hk : ∀ σ', Ex [c] σ σ' → (∀ k, k < 107 → σ' c k = σ a k) → K 0 σ') : wpCall (d + 1) iX7_copies [aR a, aR c] σ K := by
  refine bX7_copies (dwn (W := fun p => ∀ σ1, Ex [c] σ σ1 → (∀ k, k < p → σ1 c k = σ a k) → wpL (wpCall d) mX7_copies K 2 [aR a, aR c, aI (p : Nat)] [] σ1) 107 (fun σ1 he hi => ?_) (fun p hp ih σ1 he hi => ?_) 0 (Nat.zero_le _) σ Ex.rf (fun k hk => by omega))
  · exact bX7_copies_2 ⟨fun z => by omega, fun _ => hk σ1 he hi⟩
  · refine bX7_copies_2 ⟨fun _ => ?_, fun z => by omega⟩
    rw [wr1 (by omega), Int.toNat_natCast]
    refine ⟨by omega, by omega, by omega, by omega, ih _ (he.up (by simp)) (fun k hk2 => ?_)⟩
    by_cases e : k = p
    · rw [e, up_self, he a (by simp; omega)]
    · rw [up_nk e]; exact hi k (by omega)
/-- a row told by its first 107 places -/
theorem MV.cp {σ σ' : Sg} {a c : Nat} {T : Sg} (hw : WF T) (h : MV σ a T) (he : ∀ k, k < 107 → σ' c k = σ a k) : MV σ' c T := by
  have hv := h
  obtain ⟨⟨e0, e1, e2, e3, e4⟩, eh, ew, ep⟩ := id hv
  obtain ⟨⟨⟨a1, a2⟩, ⟨a3, a4⟩, ⟨a5, a6⟩, ⟨a7, a8⟩, a9⟩, wh, ww, wp⟩ := id hw
  have hnP : ((nP T : Nat) : Int) = T 0 1 := Int.toNat_of_nonneg a3
  have hnS : ((nS T : Nat) : Int) = T 0 0 := Int.toNat_of_nonneg a1
  refine ⟨⟨by rw [he 0 (by omega)]; exact e0, by rw [he 1 (by omega)]; exact e1, by rw [he 2 (by omega)]; exact e2, by rw [he 3 (by omega)]; exact e3, by rw [he 4 (by omega)]; exact e4⟩, fun s hs => by rw [he _ (by omega)]; exact eh s hs, fun x y hx hy => by rw [he _ (by omega)]; exact ew x y hx hy, fun q hq => ?_⟩
  obtain ⟨b1, b2, b3, b4, b5⟩ := ep q hq
  exact ⟨by rw [he _ (by omega)]; exact b1, by rw [he _ (by omega)]; exact b2, by rw [he _ (by omega)]; exact b3, by rw [he _ (by omega)]; exact b4, fun s hs => by rw [he _ (by omega)]; exact b5 s hs⟩
theorem MX.cp {σ σ' : Sg} {a c : Nat} {T : Sg} (hw : WF T) (h : MX σ a T) (he : ∀ k, k < 107 → σ' c k = σ a k) : MX σ' c T := by
  have h8 := hw.1.2.1
  exact ⟨fun x y hx hy hxy => by rw [he _ (by omega)]; exact h.1 x y hx hy hxy, fun q x hq hx hx5 => by rw [he _ (by omega)]; exact h.2 q x hq hx hx5⟩
