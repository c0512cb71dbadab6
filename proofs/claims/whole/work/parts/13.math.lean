/-! WHAT THE CALLS SPEAK OF: counts, sets, towns -/
theorem dwn {W : Nat → Prop} (N : Nat) (hN : W N) (hs : ∀ p, p < N → W (p + 1) → W p) : ∀ p, p ≤ N → W p := by
  have key : ∀ k p, p + k = N → W p := by
    intro k
    induction k with
    | zero => intro p h; rw [Nat.add_zero] at h; rw [h]; exact hN
    | succ k ih => intro p h; exact hs p (by omega) (ih (p + 1) (by omega))
  exact fun p hp => key (N - p) p (by omega)
theorem wq {C : Orc} {M : Mi} {K : Kt} {pc : Nat} {L L' S : List Av} {σ : Sg} (h : wpL C M K pc L S σ) (e : L' = L) : wpL C M K pc L' S σ := e ▸ h
theorem wqs {C : Orc} {M : Mi} {K : Kt} {pc : Nat} {L L' S : List Av} {σ σ' : Sg} (h : wpL C M K pc L S σ) (e : L' = L) (e2 : σ' = σ) : wpL C M K pc L' S σ' := e ▸ e2 ▸ h
theorem br_t2 {c A B : Prop} (h : c) (a : A) : (c → A) ∧ (¬ c → B) := ⟨fun _ => a, fun q => absurd h q⟩
theorem br_f2 {c A B : Prop} (h : ¬ c) (b : B) : (c → A) ∧ (¬ c → B) := ⟨fun q => absurd q h, fun _ => b⟩
theorem wr1 {p : Nat} (h : p < 100000) : wr ((p : Int) + 1) = ((p + 1 : Nat) : Int) := by unfold wr; push_cast; omega
theorem kq {K : Kt} {x y : Int} {σ : Sg} (h : K y σ) (e : x = y) : K x σ := e ▸ h
def b2i (b : Bool) : Int := if b then 1 else 0
def cnt (f : Nat → Bool) : Nat → Int
  | 0 => 0
  | n + 1 => cnt f n + b2i (f n)
def ors (f : Nat → Bool) (g : Nat → Int) : Nat → Int
  | 0 => 0
  | n + 1 => if f n then bOr (ors f g n) (g n) else ors f g n
def sumN (g : Nat → Int) : Nat → Int
  | 0 => 0
  | n + 1 => sumN g n + g n
/-- the first place from i on, of k, where f holds -/
def fstI (f : Nat → Bool) (z : Int) : Nat → Nat → Int
  | 0, _ => z
  | k + 1, i => if f i then (i : Int) else fstI f z k (i + 1)
def allI (f : Nat → Bool) : Nat → Nat → Bool
  | 0, _ => true
  | k + 1, i => f i && allI f k (i + 1)
theorem b2i_r (b : Bool) : 0 ≤ b2i b ∧ b2i b ≤ 1 := by cases b <;> decide
theorem cnt_r (f : Nat → Bool) : ∀ n : Nat, 0 ≤ cnt f n ∧ cnt f n ≤ n
  | 0 => by simp [cnt]
  | n + 1 => by
    have h := cnt_r f n
    have h2 := b2i_r (f n)
    simp only [cnt]
    omega
theorem cnt_t {f : Nat → Bool} {n : Nat} (h : f n = true) : cnt f (n + 1) = cnt f n + 1 := by simp [cnt, h, b2i]
theorem cnt_f {f : Nat → Bool} {n : Nat} (h : f n = false) : cnt f (n + 1) = cnt f n := by simp [cnt, h, b2i]
theorem ors_t {f : Nat → Bool} {g : Nat → Int} {n : Nat} (h : f n = true) : ors f g (n + 1) = bOr (ors f g n) (g n) := by simp [ors, h]
theorem ors_f {f : Nat → Bool} {g : Nat → Int} {n : Nat} (h : f n = false) : ors f g (n + 1) = ors f g n := by simp [ors, h]
theorem cnt_cg {f g : Nat → Bool} : ∀ {n : Nat}, (∀ p, p < n → f p = g p) → cnt f n = cnt g n
  | 0, _ => rfl
  | n + 1, h => by simp only [cnt, h n (by omega), cnt_cg (n := n) (fun p hp => h p (by omega))]
theorem ors_cg {f f' : Nat → Bool} {g g' : Nat → Int} : ∀ (n : Nat), (∀ p, p < n → f p = f' p ∧ (f p = true → g p = g' p)) → ors f g n = ors f' g' n
  | 0, _ => rfl
  | n + 1, h => by
    have e := ors_cg n (fun p hp => h p (by omega))
    have h1 := h n (by omega)
    unfold ors
    rw [e, ← h1.1]
    by_cases q : f n = true
    · rw [if_pos q, if_pos q, h1.2 q]
    · rw [if_neg q, if_neg q]
theorem sumN_cg {g g' : Nat → Int} : ∀ {n : Nat}, (∀ p, p < n → g p = g' p) → sumN g n = sumN g' n
  | 0, _ => rfl
  | n + 1, h => by simp only [sumN, h n (by omega), sumN_cg (n := n) (fun p hp => h p (by omega))]
/-! bits of small sets -/
theorem tn_of {n : Nat} (h : n < 2 ^ 32) : (Int32.ofInt (n : Int)).toBitVec.toNat = n := by
  show (BitVec.ofInt 32 (n : Int)).toNat = n
  rw [BitVec.toNat_ofInt]
  omega
theorem ti_of {x : Int32} {n : Nat} (h : x.toBitVec.toNat = n) (hn : n < 2 ^ 31) : x.toInt = (n : Int) := by
  show x.toBitVec.toInt = _
  rw [BitVec.toInt_eq_toNat_of_lt (by omega), h]
theorem nI_and {a b : Nat} (ha : a < 256) (hb : b < 256) : bAnd (a : Int) (b : Int) = ((a &&& b : Nat) : Int) := by
  have h1 : a &&& b ≤ a := Nat.and_le_left
  refine ti_of ?_ (by omega)
  show (_ &&& _ : BitVec 32).toNat = _
  rw [BitVec.toNat_and, tn_of (by omega), tn_of (by omega)]
theorem or_lt8 {a b : Nat} (ha : a < 256) (hb : b < 256) : (a ||| b) < 256 := Nat.or_lt_two_pow (n := 8) ha hb
theorem nI_or {a b : Nat} (ha : a < 256) (hb : b < 256) : bOr (a : Int) (b : Int) = ((a ||| b : Nat) : Int) := by
  have h1 := or_lt8 ha hb
  refine ti_of ?_ (by omega)
  show (_ ||| _ : BitVec 32).toNat = _
  rw [BitVec.toNat_or, tn_of (by omega), tn_of (by omega)]
theorem and_not8 {a b : Nat} (ha : a < 256) : a &&& (b ^^^ 4294967295) = a &&& (b ^^^ 255) := by
  apply Nat.eq_of_testBit_eq
  intro i
  rw [Nat.testBit_and, Nat.testBit_and, Nat.testBit_xor, Nat.testBit_xor]
  by_cases hi : i < 8
  · have e1 : Nat.testBit 4294967295 i = true := by
      have : (4294967295 : Nat) = 2 ^ 32 - 1 := rfl
      rw [this, Nat.testBit_two_pow_sub_one]; simp; omega
    have e2 : Nat.testBit 255 i = true := by
      have : (255 : Nat) = 2 ^ 8 - 1 := rfl
      rw [this, Nat.testBit_two_pow_sub_one]; simp; omega
    rw [e1, e2]
  · rw [Nat.testBit_lt_two_pow (Nat.lt_of_lt_of_le (show a < 2 ^ 8 from ha) (Nat.pow_le_pow_right (by omega) (by omega)))]
    rfl
theorem nI_andn {a b : Nat} (ha : a < 256) (hb : b < 256) : bAnd (a : Int) (bXor (b : Int) (-1)) = ((a &&& (b ^^^ 255) : Nat) : Int) := by
  have h1 : a &&& (b ^^^ 255) ≤ a := Nat.and_le_left
  refine ti_of ?_ (by omega)
  unfold bXor
  rw [i32_ofto]
  show (_ &&& (_ ^^^ _) : BitVec 32).toNat = _
  rw [BitVec.toNat_and, BitVec.toNat_xor, tn_of (by omega), tn_of (by omega), show (Int32.ofInt (-1)).toBitVec.toNat = 4294967295 from rfl, and_not8 ha]
/-- bit c of x -/
def bit (x : Int) (c : Nat) : Bool := decide (bAnd (bShr x c) 1 = 1)
def pop (x : Int) : Int := cnt (bit x) 8
def U8 (x : Int) : Prop := 0 ≤ x ∧ x ≤ 255
theorem U8_nat {x : Int} (h : U8 x) : ∃ n : Nat, n < 256 ∧ x = n := ⟨x.toNat, by unfold U8 at h; omega, by unfold U8 at h; omega⟩
theorem U8_or {x y : Int} (hx : U8 x) (hy : U8 y) : U8 (bOr x y) := by
  obtain ⟨a, ha, rfl⟩ := U8_nat hx
  obtain ⟨b, hb, rfl⟩ := U8_nat hy
  rw [nI_or ha hb]
  have := or_lt8 ha hb
  unfold U8; omega
theorem U8_and {x y : Int} (hx : U8 x) (hy : U8 y) : U8 (bAnd x y) := by
  obtain ⟨a, ha, rfl⟩ := U8_nat hx
  obtain ⟨b, hb, rfl⟩ := U8_nat hy
  rw [nI_and ha hb]
  have := Nat.and_le_left (n := a) (m := b)
  unfold U8; omega
theorem U8_andn {x y : Int} (hx : U8 x) (hy : U8 y) : U8 (bAnd x (bXor y (-1))) := by
  obtain ⟨a, ha, rfl⟩ := U8_nat hx
  obtain ⟨b, hb, rfl⟩ := U8_nat hy
  rw [nI_andn ha hb]
  have := Nat.and_le_left (n := a) (m := b ^^^ 255)
  unfold U8; omega
theorem U8_ors {f : Nat → Bool} {g : Nat → Int} : ∀ {n : Nat}, (∀ p, p < n → U8 (g p)) → U8 (ors f g n)
  | 0, _ => by unfold U8; simp [ors]
  | n + 1, h => by
    have e := U8_ors (f := f) (n := n) (fun p hp => h p (by omega))
    simp only [ors]
    split
    · exact U8_or e (h n (by omega))
    · exact e
theorem bit_nat {a c : Nat} (ha : a < 256) (hc : c < 8) : bit (a : Int) c = a.testBit c := by
  have key : ∀ a, a < 256 → ∀ c, c < 8 → bit (Int.ofNat a) c = a.testBit c := by decide +kernel
  exact key a ha c hc
theorem bit_or {x y : Int} {c : Nat} (hx : U8 x) (hy : U8 y) (hc : c < 8) : bit (bOr x y) c = (bit x c || bit y c) := by
  obtain ⟨a, ha, rfl⟩ := U8_nat hx
  obtain ⟨b, hb, rfl⟩ := U8_nat hy
  rw [nI_or ha hb, bit_nat (or_lt8 ha hb) hc, bit_nat ha hc, bit_nat hb hc, Nat.testBit_or]
theorem bit_and {x y : Int} {c : Nat} (hx : U8 x) (hy : U8 y) (hc : c < 8) : bit (bAnd x y) c = (bit x c && bit y c) := by
  obtain ⟨a, ha, rfl⟩ := U8_nat hx
  obtain ⟨b, hb, rfl⟩ := U8_nat hy
  rw [nI_and ha hb, bit_nat (Nat.lt_of_le_of_lt Nat.and_le_left ha) hc, bit_nat ha hc, bit_nat hb hc, Nat.testBit_and]
theorem bit_andn {x y : Int} {c : Nat} (hx : U8 x) (hy : U8 y) (hc : c < 8) : bit (bAnd x (bXor y (-1))) c = (bit x c && !bit y c) := by
  obtain ⟨a, ha, rfl⟩ := U8_nat hx
  obtain ⟨b, hb, rfl⟩ := U8_nat hy
  have e2 : Nat.testBit 255 c = true := by
    have : (255 : Nat) = 2 ^ 8 - 1 := rfl
    rw [this, Nat.testBit_two_pow_sub_one]; simp; omega
  rw [nI_andn ha hb, bit_nat (Nat.lt_of_le_of_lt Nat.and_le_left ha) hc, bit_nat ha hc, bit_nat hb hc, Nat.testBit_and, Nat.testBit_xor, e2]
  cases Nat.testBit b c <;> rfl
theorem bit_zero {c : Nat} (hc : c < 8) : bit 0 c = false := by
  have := bit_nat (a := 0) (by omega) hc
  rw [show ((0 : Nat) : Int) = 0 from rfl] at this
  rw [this, Nat.zero_testBit]
theorem bit_ors {f : Nat → Bool} {g : Nat → Int} {c : Nat} (hc : c < 8) : ∀ (n : Nat), (∀ p, p < n → U8 (g p)) → (bit (ors f g n) c = true ↔ 0 < cnt (fun p => f p && bit (g p) c) n)
  | 0, _ => by simp [ors, bit_zero hc, cnt]
  | n + 1, h => by
    have e := bit_ors (f := f) hc n (fun p hp => h p (by omega))
    have r := cnt_r (fun p => f p && bit (g p) c) n
    have hu := U8_ors (f := f) (n := n) (fun p hp => h p (by omega))
    by_cases q : f n = true
    · rw [ors_t q, bit_or hu (h n (by omega)) hc, Bool.or_eq_true, e]
      by_cases hb : bit (g n) c = true
      · rw [cnt_t (by simp [q, hb])]
        simp only [hb, or_true, true_iff]
        omega
      · rw [cnt_f (by simp [q, hb])]
        simp [hb]
    · have q : f n = false := by simpa using q
      rw [ors_f q, cnt_f (by simp [q]), e]
/-! towns: T 0 _ numbers (streets, people, each, near, counting), T 1 houses, T 2 ways, T 3 crafts, T 4 hides, T 5 ties, T 6 wishes, T 7 homes (9: none) -/
def WFp (T : Sg) (p : Nat) : Prop := U8 (T 3 p) ∧ U8 (T 4 p) ∧ (T 5 p = -4 ∨ (0 ≤ T 5 p ∧ T 5 p < p)) ∧ (T 7 p = 9 ∨ (0 ≤ T 7 p ∧ T 7 p < T 0 0)) ∧ ∀ s : Nat, (s : Int) < T 0 0 → 0 ≤ T 6 (5 * p + s) ∧ T 6 (5 * p + s) ≤ 99
def WFw (T : Sg) (a b : Nat) : Prop := (0 ≤ T 2 (5 * a + b) ∧ T 2 (5 * a + b) ≤ 9) ∧ T 2 (5 * a + b) = T 2 (5 * b + a) ∧ (a = b → T 2 (5 * a + b) = 0)
def WFn (T : Sg) : Prop := (0 ≤ T 0 0 ∧ T 0 0 ≤ 5) ∧ (0 ≤ T 0 1 ∧ T 0 1 ≤ 8) ∧ (1 ≤ T 0 2 ∧ T 0 2 ≤ 3) ∧ (0 ≤ T 0 3 ∧ T 0 3 ≤ 9) ∧ U8 (T 0 4)
def WF (T : Sg) : Prop := WFn T ∧ (∀ s : Nat, (s : Int) < T 0 0 → 1 ≤ T 1 s ∧ T 1 s ≤ 4) ∧ (∀ a b : Nat, (a : Int) < T 0 0 → (b : Int) < T 0 0 → WFw T a b) ∧ ∀ p : Nat, (p : Int) < T 0 1 → WFp T p
/-- the class's town at t shows T -/
def TVn (σ : Sg) (t : Nat) (T : Sg) : Prop := σ t 0 = T 0 0 ∧ σ t 3 = T 0 1 ∧ σ t 9 = T 0 2 ∧ σ t 10 = T 0 3 ∧ σ t 11 = T 0 4
def TVp (σ : Sg) (t : Nat) (T : Sg) (p : Nat) : Prop := σ (t + 3) p = T 3 p ∧ σ (t + 4) p = T 4 p ∧ σ (t + 5) p = T 5 p ∧ σ (t + 7) p = T 7 p ∧ ∀ s : Nat, (s : Int) < T 0 0 → σ (t + 6) (5 * p + s) = T 6 (5 * p + s)
def TV (σ : Sg) (t : Nat) (T : Sg) : Prop := TW t ∧ TVn σ t T ∧ (∀ s : Nat, (s : Int) < T 0 0 → σ (t + 1) s = T 1 s) ∧ (∀ a b : Nat, (a : Int) < T 0 0 → (b : Int) < T 0 0 → σ (t + 2) (5 * a + b) = T 2 (5 * a + b)) ∧ ∀ p : Nat, (p : Int) < T 0 1 → TVp σ t T p
/-- the model's row a shows T -/
def MVn (σ : Sg) (a : Nat) (T : Sg) : Prop := σ a 0 = T 0 0 ∧ σ a 1 = T 0 1 ∧ σ a 2 = T 0 2 ∧ σ a 3 = T 0 3 ∧ σ a 4 = T 0 4
def MVp (σ : Sg) (a : Nat) (T : Sg) (p : Nat) : Prop := σ a (35 + 9 * p) = T 3 p ∧ σ a (36 + 9 * p) = T 4 p ∧ σ a (37 + 9 * p) = T 5 p ∧ (σ a (38 + 9 * p) = if T 7 p = 9 then -4 else T 7 p) ∧ ∀ s : Nat, (s : Int) < T 0 0 → σ a (39 + 9 * p + s) = T 6 (5 * p + s)
def MV (σ : Sg) (a : Nat) (T : Sg) : Prop := MVn σ a T ∧ (∀ s : Nat, (s : Int) < T 0 0 → σ a (5 + s) = T 1 s) ∧ (∀ x y : Nat, (x : Int) < T 0 0 → (y : Int) < T 0 0 → σ a (10 + 5 * x + y) = T 2 (5 * x + y)) ∧ ∀ p : Nat, (p : Int) < T 0 1 → MVp σ a T p
/-- what the model keeps ready for streets to come -/
def MX (σ : Sg) (a : Nat) (T : Sg) : Prop := (∀ x y : Nat, x < 5 → y < 5 → T 0 0 ≤ x ∨ T 0 0 ≤ y → σ a (10 + 5 * x + y) = if x = y then 0 else 5) ∧ ∀ p s : Nat, (p : Int) < T 0 1 → T 0 0 ≤ s → s < 5 → σ a (39 + 9 * p + s) = 10
theorem tw_cases {t : Nat} (h : TW t) : t = 0 ∨ t = 9 ∨ t = 18 ∨ t = 27 ∨ t = 36 := by
  have h0 : CLS t = 3 := h
  have key : ∀ t, t < 108 → CLS t = 3 → t = 0 ∨ t = 9 ∨ t = 18 ∨ t = 27 ∨ t = 36 := by decide +kernel
  exact key t (CLS_lt (by omega)) h0
theorem tw_len {t : Nat} (h : TW t) : LEN (t + 1) = 5 ∧ LEN (t + 2) = 25 ∧ LEN (t + 3) = 8 ∧ LEN (t + 4) = 8 ∧ LEN (t + 5) = 8 ∧ LEN (t + 6) = 40 ∧ LEN (t + 7) = 8 ∧ LEN (t + 8) = 5 := by
  rcases tw_cases h with rfl | rfl | rfl | rfl | rfl <;> decide +kernel
/-! frames: what isn't in the list stays -/
def Ex (l : List Nat) (σ σ' : Sg) : Prop := ∀ a, a ∉ l → ∀ k, σ' a k = σ a k
theorem Ex.rf {l : List Nat} {σ : Sg} : Ex l σ σ := fun _ _ _ => rfl
theorem Ex.tr {l l1 l2 : List Nat} {σ σ1 σ2 : Sg} (h1 : Ex l1 σ σ1) (h2 : Ex l2 σ1 σ2) (i1 : ∀ a ∈ l1, a ∈ l) (i2 : ∀ a ∈ l2, a ∈ l) : Ex l σ σ2 := fun a ha k => (h2 a (fun q => ha (i2 a q)) k).trans (h1 a (fun q => ha (i1 a q)) k)
theorem Ex.mono {l l1 : List Nat} {σ σ1 : Sg} (h1 : Ex l1 σ σ1) (i1 : ∀ a ∈ l1, a ∈ l) : Ex l σ σ1 := fun a ha k => h1 a (fun q => ha (i1 a q)) k
theorem Ex.up {l : List Nat} {σ σ1 : Sg} {a k : Nat} {v : Int} (h : Ex l σ σ1) (ha : a ∈ l) : Ex l σ (up σ1 a k v) := fun b hb j => by
  rw [up_ne (fun q => hb (by rw [q]; exact ha))]
  exact h b hb j
theorem TV.ex {σ σ' : Sg} {t : Nat} {T : Sg} {l : List Nat} (h : TV σ t T) (he : Ex l σ σ') (hl : ∀ i, i < 8 → t + i ∉ l) : TV σ' t T := by
  obtain ⟨h1, ⟨a1, a2, a3, a4, a5⟩, h3, h4, h5⟩ := h
  have e0 := he t (hl 0 (by omega))
  refine ⟨h1, ⟨?_, ?_, ?_, ?_, ?_⟩, fun s hs => ?_, fun a b ha hb => ?_, fun p hp => ?_⟩
  · rw [e0]; exact a1
  · rw [e0]; exact a2
  · rw [e0]; exact a3
  · rw [e0]; exact a4
  · rw [e0]; exact a5
  · rw [he _ (hl 1 (by omega))]; exact h3 s hs
  · rw [he _ (hl 2 (by omega))]; exact h4 a b ha hb
  · obtain ⟨b1, b2, b3, b4, b5⟩ := h5 p hp
    refine ⟨?_, ?_, ?_, ?_, fun s hs => ?_⟩
    · rw [he _ (hl 3 (by omega))]; exact b1
    · rw [he _ (hl 4 (by omega))]; exact b2
    · rw [he _ (hl 5 (by omega))]; exact b3
    · rw [he _ (hl 7 (by omega))]; exact b4
    · rw [he _ (hl 6 (by omega))]; exact b5 s hs
theorem MV.ex {σ σ' : Sg} {a : Nat} {T : Sg} (h : MV σ a T) (he : ∀ k, σ' a k = σ a k) : MV σ' a T := by
  obtain ⟨⟨a1, a2, a3, a4, a5⟩, h3, h4, h5⟩ := h
  refine ⟨⟨?_, ?_, ?_, ?_, ?_⟩, fun s hs => ?_, fun x y hx hy => ?_, fun p hp => ?_⟩
  · rw [he]; exact a1
  · rw [he]; exact a2
  · rw [he]; exact a3
  · rw [he]; exact a4
  · rw [he]; exact a5
  · rw [he]; exact h3 s hs
  · rw [he]; exact h4 x y hx hy
  · obtain ⟨b1, b2, b3, b4, b5⟩ := h5 p hp
    refine ⟨?_, ?_, ?_, ?_, fun s hs => ?_⟩
    · rw [he]; exact b1
    · rw [he]; exact b2
    · rw [he]; exact b3
    · rw [he]; exact b4
    · rw [he]; exact b5 s hs
theorem MX.ex {σ σ' : Sg} {a : Nat} {T : Sg} (h : MX σ a T) (he : ∀ k, σ' a k = σ a k) : MX σ' a T := ⟨fun x y h1 h2 h3 => by rw [he]; exact h.1 x y h1 h2 h3, fun p s h1 h2 h3 => by rw [he]; exact h.2 p s h1 h2 h3⟩
/-! what is asked of towns -/
abbrev nS (T : Sg) : Nat := (T 0 0).toNat
abbrev nP (T : Sg) : Nat := (T 0 1).toNat
def crowd (T : Sg) (s : Int) : Int := cnt (fun p => decide (T 7 p = s)) (nP T)
def withC (T : Sg) (s : Int) (c : Nat) : Int := cnt (fun p => decide (T 7 p = s) && bit (T 3 p) c) (nP T)
def othC (T : Sg) (s but : Int) : Int := ors (fun p => decide (T 7 p = s) && !decide ((p : Int) = but)) (T 3) (nP T)
def shn (T : Sg) (p : Nat) : Int := bAnd (T 3 p) (bXor (T 4 p) (-1))
def shC (T : Sg) (s : Int) : Int := ors (fun p => decide (T 7 p = s)) (shn T) (nP T)
def own (T : Sg) (p : Nat) : Int := bAnd (shn T p) (T 0 4)
def wAt (T : Sg) (p s : Nat) : Int := T 6 (5 * p + s) + 3 * pop (bAnd (T 3 p) (bXor (othC T s p) (-1)))
def wNow (T : Sg) (p : Nat) : Int := if T 7 p = 9 then 0 else wAt T p (T 7 p).toNat
def wSum (T : Sg) : Int := sumN (wNow T) (nP T)
def tog (T : Sg) (a b : Nat) : Bool := decide (a = b) || decide (T 2 (5 * a + b) < T 0 3)
def cntL (T : Sg) (s c : Nat) : Int := cnt (fun p => !decide (T 7 p = 9) && (tog T (T 7 p).toNat s && bit (own T p) c)) (nP T)
def over (T : Sg) (s : Nat) : Bool := !allI (fun c => decide (cntL T s c ≤ T 0 2)) 8 0
def tieOK (T : Sg) (p : Nat) : Bool := decide (T 5 p = -4) || (decide (T 7 p = T 7 (T 5 p).toNat) || (decide (T 7 p = 9) || decide (T 7 (T 5 p).toNat = 9)))
def ties (T : Sg) : Bool := allI (tieOK T) (nP T) 0
def bad (T : Sg) (s : Nat) : Bool := decide (T 1 s < crowd T s) || over T s
def fb (T : Sg) : Int := fstI (bad T) (if ties T then -4 else 9) (nS T) 0
def lawH (T : Sg) : Bool := allI (fun s => !over T s) (nS T) 0
