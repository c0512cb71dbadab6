/-! BOTH SIDES TOGETHER -/
def SH (σ : Sg) (d : Nat) : Prop := σ (61 + 3 * d) 0 = σ 92 d ∧ (σ 92 d = 0 ∨ (σ 92 d = 1 ∧ (σ (61 + 3 * d + 1) 0 = σ 96 d ∧ σ (61 + 3 * d + 1) 1 = σ 97 d ∧ σ (61 + 3 * d + 1) 2 = σ 98 d ∧ σ (61 + 3 * d + 1) 3 = σ 99 d) ∧ (0 ≤ σ 96 d ∧ σ 96 d ≤ 7) ∧ (0 ≤ σ 97 d ∧ σ 97 d ≤ 9) ∧ (0 ≤ σ 98 d ∧ σ 98 d ≤ 9) ∧ (0 ≤ σ 99 d ∧ σ 99 d ≤ 9)) ∨ (σ 92 d = 2 ∧ (σ (61 + 3 * d) 2 = σ 93 d ∧ σ (61 + 3 * d) 3 = σ 94 d) ∧ (0 ≤ σ 93 d ∧ σ 93 d ≤ 2) ∧ (0 ≤ σ 94 d ∧ σ 94 d ≤ 100) ∧ (∀ i, i < 100 → σ (61 + 3 * d + 2) i = σ 95 (100 * d + i)) ∧ (σ 93 d = 0 → ∀ i, i < 100 → -128 ≤ σ 95 (100 * d + i) ∧ σ 95 (100 * d + i) ≤ 127)))
def PIC (σ P : Sg) : Prop := WF P ∧ TV σ 9 P ∧ (MV σ 87 P ∧ MX σ 87 P) ∧ CX σ 9
def InvC (σ T P : Sg) : Prop := (WF T ∧ TV σ 0 T ∧ CX σ 0) ∧ ((σ 45 7 = 0 ∧ σ 85 14 = 0) ∨ (σ 45 7 = 1 ∧ σ 85 14 = 1 ∧ PIC σ P)) ∧ ∀ d, d < 8 → SH σ d
def Inv (σ T P : Sg) : Prop := MR σ T ∧ InvC σ T P
/-- cells that the invariant doesn't read -/
def NT (l : List Nat) : Bool := l.all fun a => decide (a = 8 ∨ (17 ≤ a ∧ a < 45) ∨ (46 ≤ a ∧ a < 61) ∨ a = 85 ∨ a = 86 ∨ (88 ≤ a ∧ a < 92) ∨ 100 ≤ a)
theorem NT_no {l : List Nat} (h : NT l = true) {a : Nat} (ha : a ≤ 7 ∨ (9 ≤ a ∧ a ≤ 16) ∨ a = 45 ∨ (61 ≤ a ∧ a < 85) ∨ a = 87 ∨ (92 ≤ a ∧ a < 100)) : a ∉ l := fun q => by
  have := List.all_eq_true.mp h a q
  simp only [decide_eq_true_eq] at this
  omega
theorem SH.cg {σ σ' : Sg} {d : Nat} (h : SH σ d) (h0 : ∀ k, σ' (61 + 3 * d) k = σ (61 + 3 * d) k) (h1 : ∀ k, σ' (61 + 3 * d + 1) k = σ (61 + 3 * d + 1) k) (h2 : ∀ k, σ' (61 + 3 * d + 2) k = σ (61 + 3 * d + 2) k) (h3 : ∀ a, 92 ≤ a → a < 100 → a ≠ 95 → σ' a d = σ a d) (h95 : ∀ i, i < 100 → σ' 95 (100 * d + i) = σ 95 (100 * d + i)) : SH σ' d := by
  unfold SH at h ⊢
  rw [h0, h0, h0, h1, h1, h1, h1, h3 92 (by omega) (by omega) (by omega), h3 93 (by omega) (by omega) (by omega), h3 94 (by omega) (by omega) (by omega), h3 96 (by omega) (by omega) (by omega), h3 97 (by omega) (by omega) (by omega), h3 98 (by omega) (by omega) (by omega), h3 99 (by omega) (by omega) (by omega)]
  refine ⟨h.1, h.2.imp id (fun z => z.imp id (fun z => ⟨z.1, z.2.1, z.2.2.1, z.2.2.2.1, fun i hi => ?_, fun q i hi => ?_⟩))⟩
  · rw [h2, h95 i hi]; exact z.2.2.2.2.1 i hi
  · rw [h95 i hi]; exact z.2.2.2.2.2 q i hi
theorem SH.ex {σ σ' : Sg} {d : Nat} {l : List Nat} (h : SH σ d) (hd : d < 8) (e : Ex l σ σ') (hl : NT l = true) : SH σ' d :=
  h.cg (fun k => e _ (NT_no hl (by omega)) k) (fun k => e _ (NT_no hl (by omega)) k) (fun k => e _ (NT_no hl (by omega)) k) (fun a h1 h2 _ => e a (NT_no hl (by omega)) d) (fun i _ => e 95 (NT_no hl (by omega)) _)
theorem PIC.ex {σ σ' P : Sg} {l : List Nat} (h : PIC σ P) (e : Ex l σ σ') (hl : NT l = true) : PIC σ' P := by
  obtain ⟨h1, h2, h3, h4⟩ := h
  exact ⟨h1, h2.ex e (fun i hi => NT_no hl (by omega)), ⟨h3.1.ex (fun k => e 87 (NT_no hl (by omega)) k), h3.2.ex (fun k => e 87 (NT_no hl (by omega)) k)⟩, h4.ex e (NT_no hl (by omega))⟩
theorem InvC.ex {σ σ' T P : Sg} {l : List Nat} (h : InvC σ T P) (e : Ex l σ σ') (hl : NT l = true) (h14 : σ' 85 14 = σ 85 14) : InvC σ' T P := by
  obtain ⟨⟨hw, hv, hx⟩, hp, hs⟩ := h
  have h45 : σ' 45 7 = σ 45 7 := e 45 (NT_no hl (by omega)) 7
  refine ⟨⟨hw, hv.ex e (fun i hi => NT_no hl (by omega)), hx.ex e (NT_no hl (by omega))⟩, ?_, fun d hd => (hs d hd).ex hd e hl⟩
  rw [h45, h14]
  exact hp.imp id (fun z => ⟨z.1, z.2.1, z.2.2.ex e hl⟩)
abbrev LX : List Nat := [8, 18, 19, 20, 21, 22, 23, 24, 25, 26, 27, 28, 29, 30, 31, 32, 33, 34, 35, 36, 37, 38, 39, 40, 41, 42, 43, 44, 46, 48, 49, 50, 51, 52, 53, 54, 55, 56, 57, 58, 59]
abbrev LM : List Nat := [85, 86, 88, 89, 90, 91, 100, 101, 102, 103, 104, 105, 106, 107]
theorem NT_X : NT LX = true := by decide +kernel
theorem NT_M : NT LM = true := by decide +kernel
theorem Inv.x {σ σ' T P : Sg} (h : Inv σ T P) (e : Ex LX σ σ') : Inv σ' T P := ⟨h.1.ex e (by decide), h.2.ex e NT_X (e 85 (by decide) 14)⟩
theorem Inv.m {σ σ' T P : Sg} (h : Inv σ T P) (e : Ex LM σ σ') (m : MR σ' T) (h14 : σ' 85 14 = σ 85 14) : Inv σ' T P := ⟨m, h.2.ex e NT_M h14⟩
def EQ (mx mm : Nat) (as : List Av) : Prop := ∀ σ T P, Inv σ T P → wpCall 20 mx (aR 45 :: as) σ (fun r σ1 => wpCall 20 mm (aR 85 :: as) σ1 (fun r' σ2 => r = r' ∧ ∃ T' P', Inv σ2 T' P'))
theorem EQq {mx mm : Nat} {as : List Av} (hm : mm ≠ iX7_image) (f : Sg → Int) (hx : ∀ σ T P K, Inv σ T P → (∀ σ', Ex LX σ σ' → K (f T) σ') → wpCall 20 mx (aR 45 :: as) σ K) (hy : ∀ σ T P K, Inv σ T P → (∀ σ', Ex LM σ σ' → MR σ' T → K (f T) σ') → wpCall 20 mm (aR 85 :: as) σ K) : EQ mx mm as := fun σ T P h =>
  hx σ T P _ h (fun σ1 e1 => keep14 hm (hy σ1 T P _ (h.x e1) (fun σ2 e2 m2 h14 => ⟨rfl, T, P, (h.x e1).m e2 m2 h14⟩)))
theorem oth9 {T : Sg} {s : Int} (hw : WF T) : ors (fun p => decide (T 7 p = s)) (T 3) (nP T) = othC T s 9 := by
  have h8 := hw.1.2.1
  have hnP : ((nP T : Nat) : Int) = T 0 1 := Int.toNat_of_nonneg h8.1
  unfold othC
  refine ors_cg _ (fun p hp => ⟨?_, fun _ => rfl⟩)
  rw [decide_eq_false (show ¬ (p : Int) = 9 by omega)]
  simp
abbrev inS (T : Sg) (x : Int) : Prop := 0 ≤ x ∧ x < T 0 0
abbrev inP (T : Sg) (x : Int) : Prop := 0 ≤ x ∧ x < T 0 1
section EQ1
variable {σ T P : Sg} {K : Kt} {x y z w : Int}
theorem x_hasS {d : Nat} (h : Inv σ T P) (h1 : inS T x → K 1 σ) (h0 : ¬ inS T x → K 0 σ) : wpCall (d + 1) iX3_hasStreet [aR 0, aI x] σ K := s_hasStreet (d := d) h.2.1.2.1 (fun a b => h1 ⟨a, b⟩) h0
theorem x_hasP {d : Nat} (h : Inv σ T P) (h1 : inP T x → K 1 σ) (h0 : ¬ inP T x → K 0 σ) : wpCall (d + 1) iX3_hasPerson [aR 0, aI x] σ K := s_hasPerson (d := d) h.2.1.2.1 (fun a b => h1 ⟨a, b⟩) h0
theorem y_isS {d : Nat} (h : Inv σ T P) (h1 : inS T x → K 1 σ) (h0 : ¬ inS T x → K 0 σ) : wpCall (d + 2) iX7_isStreet [aR 85, aI x] σ K := m_isStreet (d := d) h.1.1 h.2.1.1 h1 h0
theorem y_isP {d : Nat} (h : Inv σ T P) (h1 : inP T x → K 1 σ) (h0 : ¬ inP T x → K 0 σ) : wpCall (d + 2) iX7_isOne [aR 85, aI x] σ K := m_isOne (d := d) h.1.1 h.2.1.1 h1 h0
end EQ1
theorem inS_n {T : Sg} {x : Int} (h : inS T x) : ∃ s : Nat, x = s ∧ (s : Int) < T 0 0 := ⟨x.toNat, by unfold inS at h; omega, by unfold inS at h; omega⟩
theorem inP_n {T : Sg} {x : Int} (h : inP T x) : ∃ s : Nat, x = s ∧ (s : Int) < T 0 1 := ⟨x.toNat, by unfold inP at h; omega, by unfold inP at h; omega⟩
def streetF (T : Sg) (x w : Int) : Int := if inS T x then (if w = 0 then T 1 x.toNat else if w = 1 then crowd T x else if w = 2 then othC T x 9 else if w = 3 then shC T x else -1) else -1
theorem streetF_n {T : Sg} {x w : Int} (h : ¬ inS T x) : streetF T x w = -1 := by unfold streetF; rw [if_neg h]
theorem streetF_y {T : Sg} {x w : Int} (h : inS T x) : streetF T x w = (if w = 0 then T 1 x.toNat else if w = 1 then crowd T x else if w = 2 then othC T x 9 else if w = 3 then shC T x else -1) := by unfold streetF; rw [if_pos h]
theorem eq_street {x w : Int} : EQ iX6_street iX7_street [aI x, aI w] := by
  refine EQq (by decide) (fun T => streetF T x w) (fun σ T P K h hk => ?_) (fun σ T P K h hk => ?_)
  · obtain ⟨m, ⟨hw, hv, hx⟩, -⟩ := id h
    have h5 := hw.1.1
    have l1 : LEN 1 = 5 := rfl
    have hk := hk σ Ex.rf
    refine bX6_street ⟨hv.1, x_hasS h (fun g => br_f2 (by decide) ?_) (fun g => br_t2 rfl (by rw [streetF_n g] at hk; exact hk))⟩
    rw [streetF_y g] at hk
    obtain ⟨s, rfl, hs⟩ := inS_n g
    refine ⟨fun q => ⟨hv.1, by omega, by omega, ?_⟩, fun q => ⟨hv.1, s_crowdIn hv hw ?_⟩, fun q => ⟨hv.1, s_craftsIn hv hw ?_⟩, fun q => ⟨hv.1, s_shownIn hv hw ?_⟩, fun q => ?_⟩
    · rw [if_pos q, Int.toNat_natCast] at hk
      rw [Int.toNat_natCast, hv.2.2.1 s hs]; exact hk
    · rw [if_neg (by omega), if_pos q] at hk; exact hk
    · rw [if_neg (by omega), if_neg (by omega), if_pos q] at hk; exact hk
    · rw [if_neg (by omega), if_neg (by omega), if_neg (by omega), if_pos q] at hk; exact hk
    · rw [if_neg (by omega), if_neg (by omega), if_neg (by omega), if_neg (by omega)] at hk; exact hk
  · obtain ⟨m, ⟨hw, hv, hx⟩, -⟩ := id h
    have h5 := hw.1.1
    have l86 : LEN 86 = 107 := rfl
    have hk := hk σ Ex.rf m
    refine bX7_street (y_isS h (fun g => br_f2 (by decide) ?_) (fun g => br_t2 rfl (by rw [streetF_n g] at hk; exact hk)))
    rw [streetF_y g] at hk
    obtain ⟨s, rfl, hs⟩ := inS_n g
    rw [ixh (by omega)]
    refine ⟨fun q => ⟨by omega, by omega, ?_⟩, fun q => m_manyIn m.1 hw (by omega) ?_, fun q => m_craftsIn m.1 hw (by omega) ?_, fun q => m_craftsIn m.1 hw (by omega) ?_, fun q => ?_⟩
    · rw [if_pos q, Int.toNat_natCast] at hk
      rw [Int.toNat_natCast, m.1.2.1 s hs]; exact hk
    · rw [if_neg (by omega), if_pos q] at hk; exact hk
    · rw [if_neg (by omega), if_neg (by omega), if_pos q, ← oth9 hw] at hk
      rw [if_pos rfl]; exact hk
    · rw [if_neg (by omega), if_neg (by omega), if_neg (by omega), if_pos q] at hk
      rw [if_neg (by decide)]; exact hk
    · rw [if_neg (by omega), if_neg (by omega), if_neg (by omega), if_neg (by omega)] at hk; exact hk
