/-! the search for the first best living -/
def hom (T : Sg) (h : Nat → Int) : Sg := fun f => if f = 7 then h else T f
def hu (h : Nat → Int) (p : Nat) (v : Int) : Nat → Int := fun q => if q = p then v else h q
theorem hom7 {T : Sg} {h : Nat → Int} : hom T h 7 = h := rfl
theorem homf {T : Sg} {h : Nat → Int} {f : Nat} (hf : f ≠ 7) : hom T h f = T f := by unfold hom; rw [if_neg hf]
theorem hom_up {T : Sg} {h : Nat → Int} {p : Nat} {v : Int} : up (hom T h) 7 p v = hom T (hu h p v) := by
  funext f i
  unfold up hom hu
  by_cases e : f = 7
  · subst e
    by_cases e2 : i = p
    · subst e2; simp
    · simp [e2]
  · simp [e]
theorem hu_s {h : Nat → Int} {p : Nat} {v : Int} : hu h p v p = v := by simp [hu]
theorem hu_n {h : Nat → Int} {p q : Nat} {v : Int} (e : q ≠ p) : hu h p v q = h q := by simp [hu, e]
theorem hu_id {h : Nat → Int} {p : Nat} {v : Int} (e : h p = v) : hu h p v = h := by
  funext q
  by_cases e2 : q = p
  · subst e2; rw [hu_s, e]
  · rw [hu_n e2]
theorem fstI_neg (f : Nat → Bool) (z : Int) : ∀ (k i : Nat), (fstI f z k i = z ∧ ∀ c, i ≤ c → c < i + k → f c = false) ∨ (∃ c, i ≤ c ∧ c < i + k ∧ f c = true ∧ fstI f z k i = (c : Int))
  | 0, i => Or.inl ⟨rfl, fun c h1 h2 => by omega⟩
  | k + 1, i => by
    by_cases q : f i = true
    · exact Or.inr ⟨i, by omega, by omega, q, by simp [fstI, q]⟩
    · have e : fstI f z (k + 1) i = fstI f z k (i + 1) := by simp [fstI, q]
      rw [e]
      rcases fstI_neg f z k (i + 1) with ⟨h1, h2⟩ | ⟨c, h1, h2, h3, h4⟩
      · refine Or.inl ⟨h1, fun c h3 h4 => ?_⟩
        by_cases e2 : c = i
        · subst e2; simpa using q
        · exact h2 c (by omega) (by omega)
      · exact Or.inr ⟨c, by omega, by omega, h3, h4⟩
theorem lawful_iff {T : Sg} : lawful T = true ↔ (∀ s, s < nS T → crowd T s ≤ T 1 s) ∧ (∀ s, s < nS T → ∀ c, c < 8 → cntL T s c ≤ T 0 2) ∧ ∀ p, p < nP T → tieOK T p = true := by
  unfold lawful
  rw [decide_eq_true_eq]
  unfold fb
  have ht : ties T = true ↔ ∀ p, p < nP T → tieOK T p = true := by
    unfold ties
    rw [allI_iff]
    constructor
    · intro h p hp; exact h p (by omega) (by omega)
    · intro h p _ hp; exact h p (by omega)
  have hb : ∀ s, bad T s = false ↔ crowd T s ≤ T 1 s ∧ ∀ c, c < 8 → cntL T s c ≤ T 0 2 := by
    intro s
    unfold bad
    rw [Bool.or_eq_false_iff, over_iff, decide_eq_false_iff_not, Int.not_lt]
  rcases fstI_neg (bad T) (if ties T then -4 else 9) (nS T) 0 with ⟨h1, h2⟩ | ⟨c, h1, h2, h3, h4⟩
  · rw [h1]
    have h2' : ∀ s, s < nS T → bad T s = false := fun s hs => h2 s (by omega) (by omega)
    by_cases q : ties T = true
    · rw [if_pos q]
      simp only [true_iff]
      exact ⟨fun s hs => ((hb s).mp (h2' s hs)).1, fun s hs => ((hb s).mp (h2' s hs)).2, ht.mp q⟩
    · rw [if_neg q]
      constructor
      · intro z; exact absurd z (by decide)
      · intro z; exact absurd (ht.mpr z.2.2) q
  · rw [h4]
    constructor
    · intro z; omega
    · intro z
      have : bad T c = false := (hb c).mpr ⟨z.1 c (by omega), z.2.1 c (by omega)⟩
      rw [this] at h3; cases h3
theorem cnt_upd {f g : Nat → Bool} {p : Nat} (h : ∀ q, q ≠ p → g q = f q) : ∀ {n : Nat}, p < n → cnt g n = cnt f n - b2i (f p) + b2i (g p)
  | 0, hp => by omega
  | n + 1, hp => by
    by_cases e : n = p
    · subst e
      have : cnt g n = cnt f n := cnt_cg (fun q hq => h q (by omega))
      simp only [cnt, this]
      omega
    · have ih := cnt_upd h (n := n) (by omega)
      simp only [cnt, ih, h n e]
      omega
theorem nS_hom {T : Sg} {h : Nat → Int} : nS (hom T h) = nS T := by unfold nS; rw [homf (by omega)]
theorem nP_hom {T : Sg} {h : Nat → Int} : nP (hom T h) = nP T := by unfold nP; rw [homf (by omega)]
theorem own_hom {T : Sg} {h : Nat → Int} {p : Nat} : own (hom T h) p = own T p := by unfold own shn; rw [homf (by omega), homf (by omega), homf (by omega)]
theorem tog_hom {T : Sg} {h : Nat → Int} {a b : Nat} : tog (hom T h) a b = tog T a b := by unfold tog; rw [homf (by omega), homf (by omega)]
theorem crowd_hu {T : Sg} {h : Nat → Int} {p s x : Nat} (hp : p < nP T) (h9 : h p = 9) (hx : x < 9) : crowd (hom T (hu h p s)) x = crowd (hom T h) x + b2i (decide (s = x)) := by
  unfold crowd
  rw [nP_hom, nP_hom, hom7, hom7, cnt_upd (p := p) (f := fun q => decide (h q = x)) (g := fun q => decide (hu h p s q = x)) (fun q hq => by simp only [hu_n hq]) hp]
  have e1 : b2i (decide (h p = (x : Int))) = 0 := by rw [h9]; simp [b2i]; omega
  have e2 : b2i (decide (hu h p s p = (x : Int))) = b2i (decide (s = x)) := by
    have hh : ((s : Int) = x) ↔ s = x := by omega
    rw [hu_s]; simp only [hh]
  rw [e1, e2]
  omega
theorem cntL_hu {T : Sg} {h : Nat → Int} {p s o c : Nat} (hp : p < nP T) (h9 : h p = 9) (hs : s < 9) : cntL (hom T (hu h p s)) o c = cntL (hom T h) o c + b2i (tog T s o && bit (own T p) c) := by
  unfold cntL
  rw [nP_hom, nP_hom, hom7, hom7]
  simp only [tog_hom, own_hom]
  rw [cnt_upd (p := p) (f := fun q => !decide (h q = 9) && (tog T (h q).toNat o && bit (own T q) c)) (g := fun q => !decide (hu h p s q = 9) && (tog T (hu h p s q).toNat o && bit (own T q) c)) (fun q hq => by simp only [hu_n hq]) hp]
  have e1 : b2i (!decide (h p = 9) && (tog T (h p).toNat o && bit (own T p) c)) = 0 := by rw [h9]; simp [b2i]
  have e2 : b2i (!decide (hu h p s p = 9) && (tog T (hu h p s p).toNat o && bit (own T p) c)) = b2i (tog T s o && bit (own T p) c) := by
    rw [hu_s, Int.toNat_natCast]
    have : ¬ ((s : Int) = 9) := by omega
    simp [this]
  rw [e1, e2]
  omega
/-- whether one fits in -/
theorem fits_iff {T : Sg} {h : Nat → Int} {p s : Nat} (hw : WF T) (hp : p < nP T) (hs : s < nS T) (h9 : ∀ q, p ≤ q → q < nP T → h q = 9) (hl : lawful (hom T h) = true) : lawful (hom T (hu h p s)) = true ↔ crowd (hom T h) s < T 1 s ∧ (T 5 p = -4 ∨ h (T 5 p).toNat = 9 ∨ h (T 5 p).toNat = s) ∧ ∀ o, o < nS T → tog T s o = true → ∀ c, c < 8 → cntL (hom T h) o c + b2i (bit (own T p) c) ≤ T 0 2 := by
  have hS5 : nS T ≤ 5 := by have := hw.1.1; unfold nS; omega
  have hp9 := h9 p (by omega) hp
  rw [lawful_iff] at hl ⊢
  obtain ⟨g1, g2, g3⟩ := hl
  rw [nS_hom] at g1 g2 ⊢
  rw [nP_hom] at g3 ⊢
  rw [homf (f := 1) (by omega), homf (f := 0) (by omega)] at *
  have wp := (hw.2.2.2 p (nP_lt hp)).2.2.1
  have tie : (∀ q, q < nP T → tieOK (hom T (hu h p s)) q = true) ↔ (T 5 p = -4 ∨ h (T 5 p).toNat = 9 ∨ h (T 5 p).toNat = s) := by
    have hself : tieOK (hom T (hu h p s)) p = true ↔ (T 5 p = -4 ∨ h (T 5 p).toNat = 9 ∨ h (T 5 p).toNat = s) := by
      unfold tieOK
      rw [homf (f := 5) (by omega), hom7, hu_s]
      by_cases e : T 5 p = -4
      · simp [e]
      · rw [hu_n (by omega)]
        have : ¬ ((s : Int) = 9) := by omega
        simp [e, this]
        constructor
        · rintro (a | a)
          · exact Or.inr a.symm
          · exact Or.inl a
        · rintro (a | a)
          · exact Or.inr a
          · exact Or.inl a.symm
    constructor
    · intro z; exact hself.mp (z p hp)
    · intro z q hq
      by_cases e : q = p
      · subst e; exact hself.mpr z
      · have wq := (hw.2.2.2 q (nP_lt hq)).2.2.1
        have gq := g3 q hq
        unfold tieOK at gq ⊢
        rw [homf (f := 5) (by omega), hom7] at gq ⊢
        rw [hu_n e]
        by_cases e2 : T 5 q = -4
        · simp [e2]
        · by_cases e3 : (T 5 q).toNat = p
          · have : h q = 9 := h9 q (by omega) hq
            simp [this]
          · rw [hu_n e3]; exact gq
  rw [tie]
  constructor
  · rintro ⟨a, b, c⟩
    refine ⟨?_, c, fun o ho ht cc hc => ?_⟩
    · have := a s hs
      rw [crowd_hu hp hp9 (by omega)] at this
      simp [b2i] at this
      omega
    · have := b o ho cc hc
      rw [cntL_hu hp hp9 (by omega), ht] at this
      simpa using this
  · rintro ⟨a, c, b⟩
    refine ⟨fun x hx => ?_, fun o ho cc hc => ?_, c⟩
    · rw [crowd_hu hp hp9 (by omega)]
      have := g1 x hx
      by_cases e : s = x
      · subst e; simp [b2i]; omega
      · simp [b2i, e]; exact this
    · rw [cntL_hu hp hp9 (by omega)]
      by_cases e : tog T s o = true
      · rw [e, Bool.true_and]; exact b o ho e cc hc
      · have e : tog T s o = false := by simpa using e
        rw [e]
        have := g2 o ho cc hc
        simp [b2i]
        exact this
/-- all livings by people in order, streets in order, none last: only a greater one takes the place of one found before -/
def fsL (F : (Nat → Int) → Int → Int × (Nat → Int) → Int × (Nat → Int)) (T : Sg) (gn : Nat → Nat → Int) (p : Nat) (h : Nat → Int) (sum : Int) : Nat → Nat → Int × (Nat → Int) → Int × (Nat → Int)
  | 0, _, b => b
  | j + 1, s, b => fsL F T gn p h sum j (s + 1) (if lawful (hom T (hu h p s)) then F (hu h p s) (sum + gn p s) b else b)
def fs (T : Sg) (gn : Nat → Nat → Int) : Nat → Nat → (Nat → Int) → Int → Int × (Nat → Int) → Int × (Nat → Int)
  | 0, _, h, sum, b => if b.1 < sum then (sum, h) else b
  | k + 1, p, h, sum, b => fs T gn k (p + 1) (hu h p 9) sum (fsL (fs T gn k (p + 1)) T gn p h sum (nS T) 0 b)
def hope (mx : Nat → Int) : Nat → Nat → Int
  | 0, _ => 0
  | k + 1, p => mx p + hope mx k (p + 1)
theorem fs_prune {T : Sg} {gn : Nat → Nat → Int} {mx : Nat → Int} (hm : ∀ q s, s < nS T → gn q s ≤ mx q) (h0 : ∀ q, 0 ≤ mx q) : ∀ (k p : Nat) (h : Nat → Int) (sum : Int) (b : Int × (Nat → Int)), sum + hope mx k p ≤ b.1 → fs T gn k p h sum b = b := by
  intro k
  induction k with
  | zero =>
    intro p h sum b hb
    have hb : sum + 0 ≤ b.1 := hb
    show (if _ then _ else _) = _
    rw [if_neg (by omega)]
  | succ k ih =>
    intro p h sum b hb
    have hb : sum + (mx p + hope mx k (p + 1)) ≤ b.1 := hb
    have hl : ∀ j s, s + j = nS T → fsL (fs T gn k (p + 1)) T gn p h sum j s b = b := by
      intro j
      induction j with
      | zero => intro s _; rfl
      | succ j ihj =>
        intro s hs
        show fsL _ T gn p h sum j (s + 1) (if _ then _ else _) = b
        have : (if lawful (hom T (hu h p s)) then fs T gn k (p + 1) (hu h p s) (sum + gn p s) b else b) = b := by
          split
          · exact ih (p + 1) _ _ b (by have := hm p s (by omega); omega)
          · rfl
        rw [this]
        exact ihj (s + 1) (by omega)
    show fs T gn k (p + 1) _ sum (fsL _ T gn p h sum (nS T) 0 b) = b
    rw [hl (nS T) 0 (by omega)]
    exact ih (p + 1) _ _ b (by have := h0 p; omega)
theorem fs_init {T : Sg} {gn : Nat → Nat → Int} (hg : ∀ q s, 0 ≤ gn q s) : ∀ (k p : Nat) (h : Nat → Int) (sum : Int) (b b' : Int × (Nat → Int)), 0 ≤ sum → (b = b' ∨ (b.1 = -1 ∧ b'.1 = -1)) → fs T gn k p h sum b = fs T gn k p h sum b' := by
  intro k
  induction k with
  | zero =>
    intro p h sum b b' hs hb
    rcases hb with rfl | ⟨h1, h2⟩
    · rfl
    · show (if _ then _ else _) = (if _ then _ else _)
      rw [if_pos (by omega), if_pos (by omega)]
  | succ k ih =>
    intro p h sum b b' hs hb
    have hl : ∀ j s (b b' : Int × (Nat → Int)), (b = b' ∨ (b.1 = -1 ∧ b'.1 = -1)) → (fsL (fs T gn k (p + 1)) T gn p h sum j s b = fsL (fs T gn k (p + 1)) T gn p h sum j s b' ∨ ((fsL (fs T gn k (p + 1)) T gn p h sum j s b).1 = -1 ∧ (fsL (fs T gn k (p + 1)) T gn p h sum j s b').1 = -1)) := by
      intro j
      induction j with
      | zero => intro s b b' hb; exact hb
      | succ j ihj =>
        intro s b b' hb
        refine ihj (s + 1) _ _ ?_
        split
        · exact Or.inl (ih (p + 1) _ _ _ _ (by have := hg p s; omega) hb)
        · exact hb
    exact ih (p + 1) _ _ _ _ hs (hl (nS T) 0 b b' hb)
theorem lawful_9 {T : Sg} (hw : WF T) : lawful (hom T (fun _ => 9)) = true := by
  have hn := hw.1
  have hn1 := hn.1.2
  have hn2 := hn.2.2.1.1
  rw [lawful_iff, nS_hom, nP_hom]
  refine ⟨fun s hs => ?_, fun s hs c hc => ?_, fun p hp => ?_⟩
  · have e : crowd (hom T (fun _ => 9)) s = 0 := by
      unfold crowd
      rw [hom7]
      have hlt := nS_lt hs
      have : ∀ n, cnt (fun _ => decide ((9 : Int) = s)) n = 0 := by
        intro n
        induction n with
        | zero => rfl
        | succ n ih => rw [cnt_f (by simp; omega), ih]
      exact this _
    rw [e, homf (by omega)]
    have := (hw.2.1 s (nS_lt hs)).1
    omega
  · have e : cntL (hom T (fun _ => 9)) s c = 0 := by
      unfold cntL
      rw [hom7]
      have : ∀ n, cnt (fun p => !decide ((9 : Int) = 9) && (tog (hom T fun _ => 9) (9 : Int).toNat s && bit (own (hom T fun _ => 9) p) c)) n = 0 := by
        intro n
        induction n with
        | zero => rfl
        | succ n ih => rw [cnt_f (by simp), ih]
      exact this _
    rw [e, homf (by omega)]
    omega
  · unfold tieOK
    rw [hom7]
    simp
theorem hope_r {mx : Nat → Int} {b : Int} (h : ∀ q, 0 ≤ mx q ∧ mx q ≤ b) : ∀ k p, 0 ≤ hope mx k p ∧ hope mx k p ≤ b * k
  | 0, p => by simp [hope]
  | k + 1, p => by
    have e := hope_r h k (p + 1)
    have e2 := h p
    have e3 : b * ((k + 1 : Nat) : Int) = b * k + b := by push_cast; rw [Int.mul_add, Int.mul_one]
    show 0 ≤ mx p + hope mx k (p + 1) ∧ mx p + hope mx k (p + 1) ≤ _
    omega
