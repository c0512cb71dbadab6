/-! THE TEXT OF A TOWN: what a statement says -/
abbrev RSt := Bool × Nat × Int × Int × Int × Int × Int
abbrev RSt.ok (R : RSt) : Bool := R.1
abbrev RSt.p (R : RSt) : Nat := R.2.1
abbrev RSt.a (R : RSt) : Int := R.2.2.1
abbrev RSt.b (R : RSt) : Int := R.2.2.2.1
abbrev RSt.c (R : RSt) : Int := R.2.2.2.2.1
abbrev RSt.set (R : RSt) : Int := R.2.2.2.2.2.1
abbrev RSt.hid (R : RSt) : Int := R.2.2.2.2.2.2
def bdR (p : Nat) : RSt := ⟨false, p, 0, 0, 0, 0, 0⟩
def byt (b : Nat → Int) (n p : Nat) : Int := if p < n then b p else -1000
abbrev isD (x : Int) : Prop := 48 ≤ x ∧ x ≤ 57
def zD (B : Nat → Int) (p : Nat) (k : Nat → Int → RSt) : RSt := if isD (B p) then k (p + 1) (B p - 48) else bdR p
def zS (B : Nat → Int) (c : Int) (p : Nat) (k : Nat → RSt) : RSt := if B p = c then k (p + 1) else bdR p
/-- the last n letters, from p on -/
def crS (B : Nat → Int) : Nat → Nat → Int → Nat × Int
  | 0, p, s => (p, s)
  | n + 1, p, s => if B p = 104 - (n : Int) then crS B n (p + 1) (bOr s (bShl 1 (7 - (n : Int)))) else crS B n p s
def zC (B : Nat → Int) (p : Nat) (k : Nat → Int → RSt) : RSt := k (crS B 8 p 0).1 (crS B 8 p 0).2
def zC1 (B : Nat → Int) (p : Nat) (k : Nat → Int → RSt) : RSt := if (crS B 8 p 0).2 = 0 then bdR (crS B 8 p 0).1 else k (crS B 8 p 0).1 (crS B 8 p 0).2
def zT (B : Nat → Int) (p : Nat) (k : Nat → Int → RSt) : RSt := if B p = 116 then zD B (p + 1) k else k p (-4)
def zX (B : Nat → Int) (p : Nat) (k : Nat → Int → RSt) : RSt := if B p = 120 then zC1 B (p + 1) k else k p 0
def zN (B : Nat → Int) (p : Nat) (k : Nat → Int → RSt) : RSt := zD B p (fun p t => if 0 < t ∧ isD (B p) then k (p + 1) (10 * t + (B p - 48)) else k p t)
def stm (B : Nat → Int) (p : Nat) : RSt :=
  if B p = 115 then zD B (p + 1) fun p a => zS B 59 p fun p => ⟨true, p, a, 0, 0, 0, 0⟩
  else if B p = 121 then zD B (p + 1) fun p a => zD B p fun p b => zD B p fun p c => zS B 59 p fun p => ⟨true, p, a, b, c, 0, 0⟩
  else if B p = 112 then zC1 B (p + 1) fun p s => zT B p fun p a => zX B p fun p h => zS B 59 p fun p => ⟨true, p, a, 0, 0, s, h⟩
  else if B p = 119 then zD B (p + 1) fun p a => zD B p fun p b => zS B 32 p fun p => zN B p fun p c => zS B 59 p fun p => ⟨true, p, a, b, c, 0, 0⟩
  else if B p = 108 then zD B (p + 1) fun p a => zD B p fun p b => zC B p fun p s => zS B 59 p fun p => ⟨true, p, a, b, 0, s, 0⟩
  else if B p = 105 then zD B (p + 1) fun p a => zD B p fun p b => zS B 59 p fun p => ⟨true, p, a, b, 0, 0, 0⟩
  else bdR p
def doS (k : Int) (R : RSt) (T : Sg) : Option Sg :=
  if k = 115 then if (1 ≤ R.a ∧ R.a ≤ 4) ∧ T 0 0 < 5 then some (tStr T R.a) else none
  else if k = 121 then if (R.a < T 0 0 ∧ R.b < T 0 0) ∧ R.a ≠ R.b then some (tWay T R.a.toNat R.b.toNat R.c) else none
  else if k = 112 then if (T 0 1 < 8 ∧ (R.a = -4 ∨ R.a < T 0 1)) ∧ bAnd R.hid (bXor R.set (-1)) = 0 then some (tPer T R.set R.a R.hid) else none
  else if k = 119 then if R.a < T 0 1 ∧ R.b < T 0 0 then some (tWish T R.a.toNat R.b.toNat R.c) else none
  else if k = 108 then if 1 ≤ R.a ∧ R.a ≤ 3 then some (tLaw T R.a R.b R.set) else none
  else if R.a < T 0 1 ∧ R.b < T 0 0 then some (tLive T R.a.toNat R.b) else none
def pas1 (B : Nat → Int) (n : Nat) : Nat → Nat → Nat → Bool × Nat
  | 0, _, _ => (false, 0)
  | f + 1, p, c => if (stm B p).ok then if (stm B p).p < n then pas1 B n f (stm B p).p (c + 1) else (true, c + 1) else (false, (stm B p).p)
def pas2 (B : Nat → Int) : Nat → Nat → Sg → (Bool × Nat) × Sg
  | 0, _, T => ((true, 0), T)
  | m + 1, p, T => match doS (B p) (stm B p) T with
    | none => ((false, p), T)
    | some T' => pas2 B m (stm B p).p T'
def Chn (B : Nat → Int) (n : Nat) : Nat → Nat → Prop
  | 0, p => n ≤ p
  | m + 1, p => (stm B p).ok = true ∧ Chn B n m (stm B p).p
/-! what a statement says is small -/
def RK (l : Int) (n p : Nat) (R : RSt) : Prop := p ≤ R.p ∧ (R.ok = true → (l = 115 ∨ l = 121 ∨ l = 112 ∨ l = 119 ∨ l = 108 ∨ l = 105) ∧ p < R.p ∧ R.p ≤ n ∧ ((R.a = -4 ∧ l = 112) ∨ 0 ≤ R.a) ∧ R.a ≤ 9 ∧ (0 ≤ R.b ∧ R.b ≤ 9) ∧ (0 ≤ R.c ∧ R.c ≤ 99 ∧ (l = 119 ∨ R.c ≤ 9)) ∧ U8 R.set ∧ U8 R.hid)
theorem RK_bd {l : Int} {n p q : Nat} (h : p ≤ q) : RK l n p (bdR q) := ⟨h, fun h => by simp [bdR] at h⟩
theorem byt_lt {b : Nat → Int} {n p : Nat} (h : byt b n p ≠ -1000) : p < n := by
  unfold byt at h
  by_cases q : p < n
  · exact q
  · rw [if_neg q] at h; exact absurd rfl h
theorem RK_zD {l : Int} {b : Nat → Int} {n p0 p : Nat} {k : Nat → Int → RSt} (hp : p0 ≤ p) (hk : ∀ q v, p0 ≤ q → q ≤ n → 0 ≤ v ∧ v ≤ 9 → RK l n p0 (k q v)) : RK l n p0 (zD (byt b n) p k) := by
  unfold zD
  split
  · rename_i h
    have := byt_lt (b := b) (n := n) (p := p) (by omega)
    exact hk _ _ (by omega) (by omega) (by omega)
  · exact RK_bd hp
theorem RK_zS {l : Int} {b : Nat → Int} {n p0 p : Nat} {c : Int} {k : Nat → RSt} (hc : c ≠ -1000) (hp : p0 ≤ p) (hk : ∀ q, p0 < q → q ≤ n → RK l n p0 (k q)) : RK l n p0 (zS (byt b n) c p k) := by
  unfold zS
  split
  · rename_i h
    have := byt_lt (b := b) (n := n) (p := p) (by omega)
    exact hk _ (by omega) (by omega)
  · exact RK_bd hp
theorem U8_shl {k : Int} (h : 0 ≤ k ∧ k ≤ 7) : U8 (bShl 1 k) := by
  obtain ⟨n, hn, rfl⟩ : ∃ n : Nat, n < 8 ∧ k = n := ⟨k.toNat, by omega, by omega⟩
  have key : ∀ n, n < 8 → 0 ≤ bShl 1 (Int.ofNat n) ∧ bShl 1 (Int.ofNat n) ≤ 255 := by decide +kernel
  exact key n hn
theorem crS_r {b : Nat → Int} {n0 : Nat} : ∀ n p s, n ≤ 8 → U8 s → p ≤ n0 → (p ≤ (crS (byt b n0) n p s).1 ∧ (crS (byt b n0) n p s).1 ≤ n0) ∧ U8 (crS (byt b n0) n p s).2
  | 0, p, s, _, hs, hp => ⟨⟨Nat.le_refl _, hp⟩, hs⟩
  | n + 1, p, s, hn, hs, hp => by
    simp only [crS]
    split
    · rename_i h
      have hl := byt_lt (b := b) (n := n0) (p := p) (by omega)
      have := crS_r (b := b) (n0 := n0) n (p + 1) (bOr s (bShl 1 (7 - (n : Int)))) (by omega) (U8_or hs (U8_shl (by omega))) (by omega)
      exact ⟨⟨by omega, this.1.2⟩, this.2⟩
    · exact crS_r n p s (by omega) hs hp
theorem U8_0 : U8 0 := by unfold U8; omega
theorem RK_zC1 {l : Int} {b : Nat → Int} {n p0 p : Nat} {k : Nat → Int → RSt} (hp : p0 ≤ p) (hn : p ≤ n) (hk : ∀ q v, p0 ≤ q → q ≤ n → U8 v → RK l n p0 (k q v)) : RK l n p0 (zC1 (byt b n) p k) := by
  have := crS_r (b := b) (n0 := n) 8 p 0 (by omega) U8_0 hn
  unfold zC1
  split
  · exact RK_bd (by omega)
  · exact hk _ _ (by omega) (by omega) this.2
theorem RK_zC {l : Int} {b : Nat → Int} {n p0 p : Nat} {k : Nat → Int → RSt} (hp : p0 ≤ p) (hn : p ≤ n) (hk : ∀ q v, p0 ≤ q → q ≤ n → U8 v → RK l n p0 (k q v)) : RK l n p0 (zC (byt b n) p k) := by
  have := crS_r (b := b) (n0 := n) 8 p 0 (by omega) U8_0 hn
  exact hk _ _ (by omega) (by omega) this.2
theorem RK_stm {b : Nat → Int} {n p : Nat} : RK (byt b n p) n p (stm (byt b n) p) := by
  unfold stm
  have dn : ∀ {q : Nat} {a b' c s h : Int}, (byt b n p = 115 ∨ byt b n p = 121 ∨ byt b n p = 112 ∨ byt b n p = 119 ∨ byt b n p = 108 ∨ byt b n p = 105) → p < q → q ≤ n → ((a = -4 ∧ byt b n p = 112) ∨ 0 ≤ a) ∧ a ≤ 9 → 0 ≤ b' ∧ b' ≤ 9 → 0 ≤ c ∧ c ≤ 99 ∧ (byt b n p = 119 ∨ c ≤ 9) → U8 s → U8 h → RK (byt b n p) n p ⟨true, q, a, b', c, s, h⟩ := fun hl h1 h2 ha hb hc hs hh => ⟨Nat.le_of_lt h1, fun _ => ⟨hl, h1, h2, ha.1, ha.2, hb, hc, hs, hh⟩⟩
  repeat' split
  · exact RK_zD (by omega) fun q a h1 h2 ha => RK_zS (by omega) h1 fun q h1 h2 => dn (by omega) h1 h2 (by omega) (by omega) (by omega) U8_0 U8_0
  · exact RK_zD (by omega) fun q a h1 h2 ha => RK_zD h1 fun q b h1 h2 hb => RK_zD h1 fun q c h1 h2 hc => RK_zS (by omega) h1 fun q h1 h2 => dn (by omega) h1 h2 (by omega) (by omega) (by omega) U8_0 U8_0
  · rename_i h
    have hl := byt_lt (b := b) (n := n) (p := p) (by omega)
    refine RK_zC1 (by omega) (by omega) fun q s h1 h2 hs => ?_
    have fin : ∀ q' a, p ≤ q' → q' ≤ n → ((a = -4 ∧ byt b n p = 112) ∨ 0 ≤ a) ∧ a ≤ 9 → RK (byt b n p) n p (zX (byt b n) q' fun p h => zS (byt b n) 59 p fun p => ⟨true, p, a, 0, 0, s, h⟩) := by
      intro q' a h1 h2 ha
      unfold zX
      split
      · rename_i h
        have hl := byt_lt (b := b) (n := n) (p := q') (by omega)
        exact RK_zC1 (by omega) (by omega) fun q v h1 h2 hv => RK_zS (by omega) h1 fun q h1 h2 => dn (by omega) h1 h2 ha (by omega) (by omega) hs hv
      · exact RK_zS (by omega) h1 fun q h1 h2 => dn (by omega) h1 h2 ha (by omega) (by omega) hs U8_0
    unfold zT
    split
    · exact RK_zD (by omega) fun q a h1 h2 ha => fin q a h1 h2 (by omega)
    · exact fin q (-4) h1 h2 (by omega)
  · refine RK_zD (by omega) fun q a h1 h2 ha => RK_zD h1 fun q b' h1 h2 hb => RK_zS (by omega) h1 fun q h1 h2 => ?_
    unfold zN
    refine RK_zD (by omega) fun q t h1 h2 ht => ?_
    split
    · rename_i h
      have hd := h.2
      have hl := byt_lt (b := b) (n := n) (p := q) (by omega)
      exact RK_zS (by omega) (by omega) fun q h1 h2 => dn (by omega) h1 h2 (by omega) (by omega) (by omega) U8_0 U8_0
    · exact RK_zS (by omega) (by omega) fun q h1 h2 => dn (by omega) h1 h2 (by omega) (by omega) (by omega) U8_0 U8_0
  · exact RK_zD (by omega) fun q a h1 h2 ha => RK_zD h1 fun q b h1 h2 hb => RK_zC h1 h2 fun q v h1 h2 hv => RK_zS (by omega) h1 fun q h1 h2 => dn (by omega) h1 h2 (by omega) (by omega) (by omega) hv U8_0
  · exact RK_zD (by omega) fun q a h1 h2 ha => RK_zD h1 fun q b h1 h2 hb => RK_zS (by omega) h1 fun q h1 h2 => dn (by omega) h1 h2 (by omega) (by omega) (by omega) U8_0 U8_0
  · exact RK_bd (by omega)
theorem pas1_chn {b : Nat → Int} {n : Nat} : ∀ f p c m, pas1 (byt b n) n f p c = (true, m) → c < m ∧ Chn (byt b n) n (m - c) p
  | 0, p, c, m, h => by simp [pas1] at h
  | f + 1, p, c, m, h => by
    simp only [pas1] at h
    by_cases q : (stm (byt b n) p).ok = true
    · rw [if_pos q] at h
      by_cases q2 : (stm (byt b n) p).p < n
      · rw [if_pos q2] at h
        have := pas1_chn f _ _ _ h
        refine ⟨by omega, ?_⟩
        rw [show m - c = (m - (c + 1)) + 1 by omega]
        exact ⟨q, this.2⟩
      · rw [if_neg q2] at h
        have : c + 1 = m := (Prod.mk.inj h).2
        subst this
        rw [show c + 1 - c = 0 + 1 by omega]
        exact ⟨by omega, q, by unfold Chn; omega⟩
    · rw [if_neg q] at h
      simp at h
