/-! WHAT ONLY image WRITES: the model's hasImage (cell 85, field 14) -/
def ok14 (e : En) : Bool := match e.2.1, e.2.2.2.1 with
  | .putfield _, [ci, k, _] => !(Nat.beq ci 7 && Nat.beq k 14)
  | .invokevirtual _, [mid, _, _, _, _] => !Nat.beq mid iX7_image
  | .invokestatic _, [mid, _, _, _, _] => !Nat.beq mid iX7_image
  | _, _ => true
theorem MT_14 : ((List.range MT.length).all fun m => Nat.beq m iX7_image || (match MT[m]? with | some M => M.1.all ok14 | none => true)) = true := by decide +kernel
theorem MT_ok14 {mid : Nat} {M : Mi} (h : MT[mid]? = some M) (hm : mid ≠ iX7_image) : M.1.all ok14 = true := by
  have hl : mid < MT.length := (List.getElem?_eq_some_iff.mp h).1
  have := List.all_eq_true.mp MT_14 mid (List.mem_range.mpr hl)
  rw [h, Bool.or_eq_true] at this
  rcases this with q | q
  · exact absurd (Nat.eq_of_beq_eq_true q) hm
  · exact q
section F14
variable {P Q : Pt3} {C : Orc} {nx : Nat} {L S : List Av} {σ : Sg} {v : Int}
theorem pLd_at {ty k : Nat} (h1 : ∀ pc L S, P pc L S σ → Q pc L S σ) (h : pLd P nx L S σ ty k) : pLd Q nx L S σ ty k := by
  unfold pLd at h ⊢
  split at h
  · exact h1 _ _ _ h
  · exact h1 _ _ _ h
  · exact h1 _ _ _ h
  · exact h.elim
theorem pSt_at {ty k : Nat} (h1 : ∀ pc L S, P pc L S σ → Q pc L S σ) (h : pSt P nx L S σ ty k) : pSt Q nx L S σ ty k := by
  unfold pSt at h ⊢
  split at h
  · exact h.elim
  · split at h
    · exact h1 _ _ _ h
    · exact h1 _ _ _ h
    · exact h.elim
theorem pB_at {f : Int → Int → Int} (h1 : ∀ pc L S, P pc L S σ → Q pc L S σ) (h : pB P nx L S σ f) : pB Q nx L S σ f := by
  unfold pB at h ⊢
  split at h
  · exact h1 _ _ _ h
  · exact h.elim
theorem pU_at {f : Int → Int} (h1 : ∀ pc L S, P pc L S σ → Q pc L S σ) (h : pU P nx L S σ f) : pU Q nx L S σ f := by
  unfold pU at h ⊢
  split at h
  · exact h1 _ _ _ h
  · exact h.elim
theorem pD_at {f : Int → Int → Int} (h1 : ∀ pc L S, P pc L S σ → Q pc L S σ) (h : pD P nx L S σ f) : pD Q nx L S σ f := by
  unfold pD at h ⊢
  split at h
  · exact ⟨h.1, h1 _ _ _ h.2⟩
  · exact h.elim
theorem pSw_at {x hi0 lo0 : Int} {d : Nat} (h1 : ∀ pc L S, P pc L S σ → Q pc L S σ) : ∀ (ts : List Nat) (lo : Int), pSw P L S σ x d hi0 lo0 ts lo → pSw Q L S σ x d hi0 lo0 ts lo
  | [], _, h => fun q => h1 _ _ _ (h q)
  | t :: ts, lo, h => ⟨fun q => h1 _ _ _ (h.1 q), pSw_at h1 ts (lo + 1) h.2⟩
theorem clsP_at {ci a : Nat} {X Y : Prop} (h : CLS a = ci → X → Y) (q : clsP ci a X) : clsP ci a Y := by
  obtain ⟨h1, h2⟩ := clsP_spec q
  exact clsP_mono (h h1) q
theorem pIv_at {mid n rk : Nat} {cls : Option Nat} (hC : ∀ (as : List Av) (K : Kt), C mid as σ K → C mid as σ (fun r s => K r s ∧ s 85 14 = v)) (hm : Mono C) (h1 : ∀ pc L S (s : Sg), s 85 14 = v → P pc L S s → Q pc L S s) (h : pIv C P nx L S σ mid n rk cls) : pIv C Q nx L S σ mid n rk cls := by
  have key : ∀ (as : List Av) (S : List Av), C mid as σ (pK P nx L S rk) → C mid as σ (pK Q nx L S rk) := by
    clear h
    intro as S q
    refine hm _ _ _ _ _ (fun r σ' z => ?_) (hC _ _ q)
    obtain ⟨z, z2⟩ := z
    unfold pK at z ⊢
    split at z
    · exact h1 _ _ _ _ z2 z
    · exact h1 _ _ _ _ z2 z
    · exact h1 _ _ _ _ z2 z
  unfold pIv at h ⊢
  split at h
  · exact h.elim
  · split at h
    · exact h.elim
    · split at h
      · exact key _ _ h
      · exact clsP_mono (key _ _) h
      · exact h.elim
set_option maxHeartbeats 4000000 in
theorem stepP_14 {M : Mi} {K : Kt} (hC : ∀ (mid : Nat) (as : List Av) (σ : Sg) (K : Kt), mid ≠ iX7_image → σ 85 14 = v → C mid as σ K → C mid as σ (fun r s => K r s ∧ s 85 14 = v)) (hm : Mono C) (hM : M.1.all ok14 = true) (h1 : ∀ pc L S (s : Sg), s 85 14 = v → P pc L S s → Q pc L S s) (hv : σ 85 14 = v) {pc : Nat} (h : stepP C M K P pc L S σ) : stepP C M (fun r s => K r s ∧ s 85 14 = v) Q pc L S σ := by
  have h2 : ∀ pc L S, P pc L S σ → Q pc L S σ := fun pc L S => h1 pc L S σ hv
  have l85 : LEN 85 = 0 := rfl
  have c85 : CLS 85 = 7 := rfl
  unfold stepP at h ⊢
  cases hf : ft M.1 pc with
  | none => rw [hf] at h; exact h.elim
  | some e =>
    have ho := List.all_eq_true.mp hM _ (ft_mem _ _ _ hf)
    obtain ⟨i, nx, rs, cv⟩ := e
    rw [hf] at h
    dsimp only at h ⊢
    cases i <;> dsimp only at h ⊢ <;> first
      | exact h.elim
      | exact h2 _ _ _ h
      | exact pLd_at h2 h
      | exact pSt_at h2 h
      | exact pB_at h2 h
      | exact pU_at h2 h
      | exact pD_at h2 h
      | skip
    case i2l => split at h <;> first | exact h2 _ _ _ h | exact h.elim
    case lcmp => split at h <;> first | exact h2 _ _ _ h | exact h.elim
    case dup => split at h <;> first | exact h2 _ _ _ h | exact h.elim
    case dup2 => split at h <;> first | exact h2 _ _ _ h | exact h.elim
    case iinc =>
      split at h
      · exact h2 _ _ _ h
      · exact h.elim
    case goto => split at h <;> first | exact h2 _ _ _ h | exact h.elim
    case ifCond => split at h <;> first | exact pC_mono (h2 _ _ _) (h2 _ _ _) h | exact h.elim
    case if_icmp => split at h <;> first | exact pC_mono (h2 _ _ _) (h2 _ _ _) h | exact h.elim
    case tableswitch => split at h <;> first | exact pSw_at h2 _ _ h | exact h.elim
    case getfield =>
      split at h
      · refine clsP_mono (fun z => ?_) h
        split at z <;> exact h2 _ _ _ z
      · exact h.elim
    case putfield =>
      have up14 : ∀ (ci a f : Nat) (x : Int), CLS a = ci → ¬ (ci = 7 ∧ f = 14) → up σ a f x 85 14 = v := by
        intro ci a f x hc hn
        by_cases e : (85 : Nat) = a
        · subst e
          rw [up_nk (fun z => hn ⟨by rw [← hc, c85], z.symm⟩)]; exact hv
        · rw [up_ne e]; exact hv
      have ng : ∀ (ci f : Nat), (!(Nat.beq ci 7 && Nat.beq f 14)) = true → ¬ (ci = 7 ∧ f = 14) := by
        rintro ci f q ⟨rfl, rfl⟩; exact absurd q (by decide)
      split at h
      · exact clsP_at (fun hc z => h1 _ _ _ _ (up14 _ _ _ _ hc (ng _ _ ho)) z) h
      · exact clsP_at (fun hc z => ⟨z.1, h1 _ _ _ _ (up14 _ _ _ _ hc (ng _ _ ho)) z.2⟩) h
      · exact clsP_at (fun hc z => ⟨z.1, h1 _ _ _ _ (up14 _ _ _ _ hc (ng _ _ ho)) z.2⟩) h
      · exact h.elim
    case iaload => split at h <;> first | exact ⟨h.1, h.2.1, h2 _ _ _ h.2.2⟩ | exact h.elim
    case iastore =>
      split at h
      · next x a _ =>
        refine ⟨h.1, h.2.1, h1 _ _ _ _ ?_ h.2.2⟩
        rw [up_ne (fun z => by subst z; omega)]; exact hv
      · exact h.elim
    case aaload =>
      split at h
      · split at h <;> first | exact ⟨h.1, h.2.1, h2 _ _ _ h.2.2⟩ | exact h.elim
      · exact h.elim
    case arraylength => split at h <;> first | exact ⟨h.1, h2 _ _ _ h.2⟩ | exact h.elim
    case invokevirtual =>
      split at h
      · exact pIv_at (fun as K => hC _ as σ K (fun z => by
          have ho : (!Nat.beq _ iX7_image) = true := ho
          rw [z] at ho
          exact absurd ho (by decide)) hv) hm h1 h
      · exact h.elim
    case invokestatic =>
      split at h
      · exact pIv_at (fun as K => hC _ as σ K (fun z => by
          have ho : (!Nat.beq _ iX7_image) = true := ho
          rw [z] at ho
          exact absurd ho (by decide)) hv) hm h1 h
      · split at h
        · split at h
          · exact h.elim
          · exact h2 _ _ _ h
        · exact h.elim
      · split at h
        · split at h
          · exact h.elim
          · obtain ⟨q1, q2, q3, q4, q5, q6, q7, q8⟩ := h
            refine ⟨q1, q2, q3, q4, q5, q6, q7, h1 _ _ _ _ ?_ q8⟩
            rw [cpy_ne (fun z => by subst z; omega)]; exact hv
        · exact h.elim
      · exact h.elim
    case ireturn =>
      split at h
      · split at h <;> first | exact ⟨h, hv⟩ | exact ⟨h.1, h.2, hv⟩ | exact h.elim
      · exact h.elim
    case lreturn =>
      split at h
      · split at h <;> first | exact ⟨h, hv⟩ | exact h.elim
      · exact h.elim
    case return_ =>
      split at h
      · split at h <;> first | exact ⟨h, hv⟩ | exact h.elim
      · exact h.elim
end F14
theorem fr14 (v : Int) : ∀ (d mid : Nat) (as : List Av) (σ : Sg) (K : Kt), mid ≠ iX7_image → σ 85 14 = v → wpCall d mid as σ K → wpCall d mid as σ (fun r s => K r s ∧ s 85 14 = v)
  | 0, _, _, _, _, _, _, h => h.elim
  | d + 1, mid, as, σ, K, hm, hv, h => by
    unfold wpCall at h ⊢
    split at h
    · next M hM =>
      have h14 := MT_ok14 hM hm
      split at h
      · exact h (fun pc L S s => s 85 14 = v → wpL (wpCall d) M (fun r s => K r s ∧ s 85 14 = v) pc L S s) (fun pc L S s q hs => wpStep (wpMono d) (stepP_14 (fr14 v d) (wpMono d) h14 (fun _ _ _ s hs z => z hs) hs q)) hv
      · exact h.elim
    · exact h.elim
theorem keep14 {d mid : Nat} {as : List Av} {σ : Sg} {K : Kt} (hm : mid ≠ iX7_image) (h : wpCall d mid as σ (fun r s => s 85 14 = σ 85 14 → K r s)) : wpCall d mid as σ K :=
  wpMono d _ _ _ _ _ (fun _ _ z => z.1 z.2) (fr14 (σ 85 14) d mid as σ _ hm rfl h)
