/-! THE ABSTRACT MACHINE: values, states, one step, what a frame comes to -/
abbrev Av : Type := Int ⊕ (Nat ⊕ (Int ⊕ Unit))
abbrev aI (x : Int) : Av := .inl x
abbrev aR (a : Nat) : Av := .inr (.inl a)
abbrev aJ (x : Int) : Av := .inr (.inr (.inl x))
abbrev aU : Av := .inr (.inr (.inr ()))
abbrev Sg : Type := Nat → Nat → Int
abbrev Kt : Type := Int → Sg → Prop
abbrev Orc : Type := Nat → List Av → Sg → Kt → Prop
abbrev Pt3 : Type := Nat → List Av → List Av → Sg → Prop
/-- pc, instruction, next pc, its places, its constant -/
abbrev En : Type := Nat × Instr × Nat × List Nat × Int
/-- the table, kind of answer (0 none, 1 int, 2 boolean, 3 long), own class, name, code, locals, answer's type, how many arguments with the receiver, 1: static -/
abbrev Mi : Type := List En × Nat × Nat × MethodName × ByteArray × Nat × Option FieldType × Nat × Nat
def wr (x : Int) : Int := (x + 2147483648) % 4294967296 - 2147483648
def up (σ : Sg) (a k : Nat) (v : Int) : Sg := fun b j => if b = a ∧ j = k then v else σ b j
def cpy (σ : Sg) (a0 : Nat) (sp : Int) (a : Nat) (dp n : Int) : Sg := fun b j => if b = a ∧ dp.toNat ≤ j ∧ j < dp.toNat + n.toNat then σ a0 (sp.toNat + (j - dp.toNat)) else σ b j
def bAnd (x y : Int) : Int := (Int32.ofInt x &&& Int32.ofInt y).toInt
def bOr (x y : Int) : Int := (Int32.ofInt x ||| Int32.ofInt y).toInt
def bXor (x y : Int) : Int := (Int32.ofInt x ^^^ Int32.ofInt y).toInt
def bShl (x y : Int) : Int := (Int32.ofInt x <<< (Int32.ofInt y &&& 31)).toInt
def bShr (x y : Int) : Int := (Int32.ofInt x >>> (Int32.ofInt y &&& 31)).toInt
def bUsh (x y : Int) : Int := ((Int32.ofInt x).toUInt32 >>> ((Int32.ofInt y).toUInt32 &&& Int32.toUInt32 31)).toInt32.toInt
def cB (x : Int) : Int := (Int32.ofInt x).toInt8.toInt32.toInt
def cS (x : Int) : Int := (Int32.ofInt x).toInt16.toInt32.toInt
/-! the shape: cells by their numbers: class (90 an int array, 91 the shelves), length -/
def CLl : List Nat := [3, 90, 90, 90, 90, 90, 90, 90, 90, 3, 90, 90, 90, 90, 90, 90, 90, 90, 3, 90, 90, 90, 90, 90, 90, 90, 90, 3, 90, 90, 90, 90, 90, 90, 90, 90, 3, 90, 90, 90, 90, 90, 90, 90, 90, 6, 4, 90, 1, 90, 90, 90, 90, 90, 90, 5, 0, 90, 90, 90, 91, 2, 0, 90, 2, 0, 90, 2, 0, 90, 2, 0, 90, 2, 0, 90, 2, 0, 90, 2, 0, 90, 2, 0, 90, 7, 90, 90, 90, 90, 90, 90, 90, 90, 90, 90, 90, 90, 90, 90, 90, 90, 90, 90, 90, 90, 90, 90]
def LNl : List Nat := [0, 5, 25, 8, 8, 8, 40, 8, 5, 0, 5, 25, 8, 8, 8, 40, 8, 5, 0, 5, 25, 8, 8, 8, 40, 8, 5, 0, 5, 25, 8, 8, 8, 40, 8, 5, 0, 5, 25, 8, 8, 8, 40, 8, 5, 0, 0, 0, 0, 8, 8, 5, 8, 40, 9, 0, 0, 8, 3, 8, 0, 0, 0, 100, 0, 0, 100, 0, 0, 100, 0, 0, 100, 0, 0, 100, 0, 0, 100, 0, 0, 100, 0, 0, 100, 0, 107, 107, 107, 107, 107, 107, 8, 8, 8, 800, 8, 8, 8, 8, 3, 8, 8, 3, 3, 8, 321, 8]
def NFl : List Nat := [4, 7, 5, 13, 9, 7, 8, 40]
def CLS (a : Nat) : Nat := CLl.getD a 99
def LEN (a : Nat) : Int := Int.ofNat (LNl.getD a 0)
def TW (a : Nat) : Prop := CLS a = 3
def SHF (a : Nat) : Prop := CLS a = 2
def MVE (a : Nat) : Prop := CLS a = 0
/-- a field's kind: 0 int, 1 boolean, 2 a reference that changes, 3 one that stays -/
def FKl : List (List Nat) := [[0, 0, 0, 0], [3, 3, 3, 3, 3, 3, 0], [0, 3, 0, 0, 3], [0, 3, 3, 0, 3, 3, 3, 3, 3, 0, 0, 0, 3], [2, 0, 0, 0, 0, 0, 0, 0, 0], [3, 3, 3, 3, 3, 3, 0], [3, 3, 3, 3, 3, 3, 3, 1], [3, 3, 3, 3, 3, 3, 3, 3, 3, 3, 3, 3, 3, 3, 1, 0, 0, 0, 0, 0, 0, 0, 3, 1, 1, 1, 0, 3, 0, 0, 3, 3, 3, 3, 3, 0, 1, 3, 0, 0]]
def FK (ci k : Nat) : Nat := (FKl.getD ci []).getD k 0
/-- where a reference that stays leads -/
def RF (ci k a : Nat) : Nat := match ci with
  | 3 => (match k with | 1 => a + 1 | 2 => a + 2 | 4 => a + 3 | 5 => a + 4 | 6 => a + 5 | 7 => a + 6 | 8 => a + 7 | _ => a + 8)
  | 2 => (match k with | 1 => a + 1 | _ => a + 2)
  | 1 => [49, 50, 51, 52, 53, 54].getD k 0
  | 5 => [27, 36, 56, 57, 58, 59].getD k 0
  | 6 => [0, 9, 18, 46, 48, 55, 60].getD k 0
  | _ => [86, 87, 88, 89, 90, 91, 92, 93, 94, 95, 96, 97, 98, 99, 0, 0, 0, 0, 0, 0, 0, 0, 100, 0, 0, 0, 0, 101, 0, 0, 102, 103, 104, 105, 106, 0, 0, 107, 0, 0].getD k 0
def ft : List En → Nat → Option (Instr × Nat × List Nat × Int)
  | [], _ => none
  | e :: r, pc => match Nat.beq e.1 pc with
    | true => some e.2
    | false => ft r pc
def nth : List Av → Nat → Option Av
  | [], _ => none
  | v :: _, 0 => some v
  | _ :: l, k + 1 => nth l k
def setL : List Av → Nat → Av → List Av
  | [], _, _ => []
  | _ :: l, 0, w => w :: l
  | v :: l, k + 1, w => v :: setL l k w
def noJ : List Av → Bool
  | [] => true
  | .inr (.inr (.inl _)) :: _ => false
  | _ :: l => noJ l
def catS : List Av → Nat
  | [] => 0
  | .inr (.inr (.inl _)) :: l => Nat.add (catS l) 2
  | _ :: l => Nat.add (catS l) 1
def takeN : Nat → List Av → List Av → Option (List Av × List Av)
  | 0, acc, S => some (acc, S)
  | _ + 1, _, [] => none
  | n + 1, acc, v :: S => takeN n (v :: acc) S
def elemN : List Nat → Nat → Bool
  | [], _ => false
  | a :: l, k => match Nat.beq a k with
    | true => true
    | false => elemN l k
def clsP (ci a : Nat) (X : Prop) : Prop := match ci with
  | 3 => TW a ∧ X
  | 2 => SHF a ∧ X
  | 0 => MVE a ∧ X
  | _ => match Nat.beq (CLS a) ci with
    | true => X
    | false => False
def pLd (P : Pt3) (nx : Nat) (L S : List Av) (σ : Sg) (ty k : Nat) : Prop := match ty, nth L k with
  | 0, some (.inl x) => P nx L (aI x :: S) σ
  | 1, some (.inr (.inl a)) => P nx L (aR a :: S) σ
  | 2, some (.inr (.inr (.inl x))) => P nx L (aJ x :: S) σ
  | _, _ => False
def pSt (P : Pt3) (nx : Nat) (L S : List Av) (σ : Sg) (ty k : Nat) : Prop := match noJ L with
  | false => False
  | true => match ty, S with
    | 0, .inl x :: S => P nx (setL L k (aI x)) S σ
    | 1, .inr (.inl a) :: S => P nx (setL L k (aR a)) S σ
    | _, _ => False
def pK (P : Pt3) (nx : Nat) (L S : List Av) (rk : Nat) : Kt := fun r σ' => match rk with
  | 0 => P nx L S σ'
  | 3 => P nx L (aJ r :: S) σ'
  | _ => P nx L (aI r :: S) σ'
def pB (P : Pt3) (nx : Nat) (L S : List Av) (σ : Sg) (f : Int → Int → Int) : Prop := match S with
  | .inl y :: .inl x :: S => P nx L (aI (f x y) :: S) σ
  | _ => False
def pU (P : Pt3) (nx : Nat) (L S : List Av) (σ : Sg) (f : Int → Int) : Prop := match S with
  | .inl x :: S => P nx L (aI (f x) :: S) σ
  | _ => False
def pD (P : Pt3) (nx : Nat) (L S : List Av) (σ : Sg) (f : Int → Int → Int) : Prop := match S with
  | .inl y :: .inl x :: S => ¬ y = 0 ∧ P nx L (aI (f x y) :: S) σ
  | _ => False
def pC (c : ClassFile.Cond) (x y : Int) (A B : Prop) : Prop := match c with
  | .eq => (x = y → A) ∧ (¬ x = y → B)
  | .ne => (x = y → B) ∧ (¬ x = y → A)
  | .lt => (x < y → A) ∧ (¬ x < y → B)
  | .ge => (x < y → B) ∧ (¬ x < y → A)
  | .gt => (y < x → A) ∧ (¬ y < x → B)
  | .le => (y < x → B) ∧ (¬ y < x → A)
def pSw (P : Pt3) (L S : List Av) (σ : Sg) (x : Int) (d : Nat) (hi0 lo0 : Int) : List Nat → Int → Prop
  | [], _ => (x < lo0 ∨ hi0 < x → P d L S σ)
  | t :: ts, lo => (x = lo → P t L S σ) ∧ pSw P L S σ x d hi0 lo0 ts (lo + 1)
def pIv (C : Orc) (P : Pt3) (nx : Nat) (L S : List Av) (σ : Sg) (mid n rk : Nat) (cls : Option Nat) : Prop := match takeN n [] S with
  | none => False
  | some (as, S) => match Nat.ble (catS S) 8 with
    | false => False
    | true =>
      match cls, as with
      | none, _ => C mid as σ (pK P nx L S rk)
      | some ci, .inr (.inl a) :: _ => clsP ci a (C mid as σ (pK P nx L S rk))
      | _, _ => False
def stepP (C : Orc) (M : Mi) (K : Kt) (P : Pt3) (pc : Nat) (L S : List Av) (σ : Sg) : Prop := match ft M.1 pc with
  | none => False
  | some (i, nx, rs, cv) => match i with
    | .iload k => pLd P nx L S σ 0 k
    | .iload_n k => pLd P nx L S σ 0 k.val
    | .aload k => pLd P nx L S σ 1 k
    | .aload_n k => pLd P nx L S σ 1 k.val
    | .lload k => pLd P nx L S σ 2 k
    | .lload_n k => pLd P nx L S σ 2 k.val
    | .istore k => pSt P nx L S σ 0 k
    | .istore_n k => pSt P nx L S σ 0 k.val
    | .astore k => pSt P nx L S σ 1 k
    | .astore_n k => pSt P nx L S σ 1 k.val
    | .iconst _ => P nx L (aI cv :: S) σ
    | .bipush _ => P nx L (aI cv :: S) σ
    | .sipush _ => P nx L (aI cv :: S) σ
    | .ldc _ => P nx L (aI cv :: S) σ
    | .ldc_w _ => P nx L (aI cv :: S) σ
    | .lconst _ => P nx L (aJ cv :: S) σ
    | .ldc2_w _ => P nx L (aJ cv :: S) σ
    | .iadd => pB P nx L S σ (fun x y => wr (x + y))
    | .isub => pB P nx L S σ (fun x y => wr (x - y))
    | .imul => pB P nx L S σ (fun x y => wr (x * y))
    | .iand => pB P nx L S σ bAnd
    | .ior => pB P nx L S σ bOr
    | .ixor => pB P nx L S σ bXor
    | .ishl => pB P nx L S σ bShl
    | .ishr => pB P nx L S σ bShr
    | .iushr => pB P nx L S σ bUsh
    | .idiv => pD P nx L S σ (fun x y => wr (x.tdiv y))
    | .irem => pD P nx L S σ (fun x y => x.tmod y)
    | .ineg => pU P nx L S σ (fun x => wr (-x))
    | .i2b => pU P nx L S σ cB
    | .i2s => pU P nx L S σ cS
    | .i2l => (match S with
      | .inl x :: S => P nx L (aJ x :: S) σ
      | _ => False)
    | .lcmp => (match S with
      | .inr (.inr (.inl y)) :: .inr (.inr (.inl x)) :: S => P nx L (aI (if x < y then -1 else if x = y then 0 else 1) :: S) σ
      | _ => False)
    | .dup => (match S with
      | .inl x :: S => P nx L (aI x :: aI x :: S) σ
      | .inr (.inl a) :: S => P nx L (aR a :: aR a :: S) σ
      | _ => False)
    | .dup2 => (match S with
      | .inl x :: .inr (.inl a) :: S => P nx L (aI x :: aR a :: aI x :: aR a :: S) σ
      | _ => False)
    | .iinc k c => (match noJ L, nth L k with
      | true, some (.inl x) => P nx (setL L k (aI (wr (x + c)))) S σ
      | _, _ => False)
    | .goto _ => (match rs with
      | [t] => P t L S σ
      | _ => False)
    | .ifCond c _ => (match rs, S with
      | [t], .inl x :: S => pC c x 0 (P t L S σ) (P nx L S σ)
      | _, _ => False)
    | .if_icmp c _ => (match rs, S with
      | [t], .inl y :: .inl x :: S => pC c x y (P t L S σ) (P nx L S σ)
      | _, _ => False)
    | .tableswitch _ lo hi _ => (match rs, S with
      | d :: ts, .inl x :: S => pSw P L S σ x d hi lo ts lo
      | _, _ => False)
    | .getfield _ => (match rs, S with
      | [ci, k, fk], .inr (.inl a) :: S => clsP ci a (match fk with
        | 3 => P nx L (aR (RF ci k a) :: S) σ
        | 2 => P nx L (aR (σ a k).toNat :: S) σ
        | _ => P nx L (aI (σ a k) :: S) σ)
      | _, _ => False)
    | .putfield _ => (match rs, S with
      | [ci, k, 0], .inl x :: .inr (.inl a) :: S => clsP ci a (P nx L S (up σ a k x))
      | [ci, k, 1], .inl x :: .inr (.inl a) :: S => clsP ci a ((x = 0 ∨ x = 1) ∧ P nx L S (up σ a k x))
      | [ci, k, 2], .inr (.inl j) :: .inr (.inl a) :: S => clsP ci a (j < 1000 ∧ P nx L S (up σ a k (Int.ofNat j)))
      | _, _ => False)
    | .iaload => (match S with
      | .inl x :: .inr (.inl a) :: S => 0 ≤ x ∧ x < LEN a ∧ P nx L (aI (σ a x.toNat) :: S) σ
      | _ => False)
    | .iastore => (match S with
      | .inl v :: .inl x :: .inr (.inl a) :: S => 0 ≤ x ∧ x < LEN a ∧ P nx L S (up σ a x.toNat v)
      | _ => False)
    | .aaload => (match S with
      | .inl x :: .inr (.inl a) :: S => (match Nat.beq a 60 with
        | true => 0 ≤ x ∧ x < 8 ∧ P nx L (aR (61 + 3 * x.toNat) :: S) σ
        | false => False)
      | _ => False)
    | .arraylength => (match S with
      | .inr (.inl a) :: S => 0 < LEN a ∧ P nx L (aI (LEN a) :: S) σ
      | _ => False)
    | .invokevirtual _ => (match rs with
      | [mid, n, rk, ci, _] => pIv C P nx L S σ mid n rk (some ci)
      | _ => False)
    | .invokestatic _ => (match rs with
      | [mid, n, rk, _, _] => pIv C P nx L S σ mid n rk none
      | [_] => (match S with
        | .inl y :: .inl x :: S => (match Nat.ble (catS S) 8 with
          | false => False
          | true => P nx L (aI (if x < y then y else x) :: S) σ)
        | _ => False)
      | [] => (match S with
        | .inl n :: .inl dp :: .inr (.inl a) :: .inl sp :: .inr (.inl a0) :: S => (match Nat.ble (catS S) 8 with
          | false => False
          | true => 0 ≤ sp ∧ 0 ≤ dp ∧ 0 ≤ n ∧ sp + n ≤ LEN a0 ∧ dp + n ≤ LEN a ∧ 0 < LEN a0 ∧ 0 < LEN a ∧ P nx L S (cpy σ a0 sp a dp n))
        | _ => False)
      | _ => False)
    | .ireturn => (match S with
      | [.inl x] => (match M.2.1 with
        | 1 => K x σ
        | 2 => (x = 0 ∨ x = 1) ∧ K x σ
        | _ => False)
      | _ => False)
    | .lreturn => (match S with
      | [.inr (.inr (.inl x))] => (match M.2.1 with
        | 3 => K x σ
        | _ => False)
      | _ => False)
    | .return_ => (match S with
      | [] => (match M.2.1 with
        | 0 => K 0 σ
        | _ => False)
      | _ => False)
    | _ => False
/-- what a frame comes to: the least predicate that a step leads into -/
def wpL (C : Orc) (M : Mi) (K : Kt) (pc : Nat) (L S : List Av) (σ : Sg) : Prop :=
  ∀ P : Pt3, (∀ pc L S σ, stepP C M K P pc L S σ → P pc L S σ) → P pc L S σ
def cutM : List (Nat × List Bool) → Nat → Option (List Bool)
  | [], _ => none
  | e :: r, pc => match Nat.beq e.1 pc with
    | true => some e.2
    | false => cutM r pc
def cln : List Bool → List Av → List Av
  | [], l => l
  | _ :: _, [] => []
  | true :: m, v :: l => v :: cln m l
  | false :: m, .inr (.inr (.inl x)) :: l => aJ x :: cln m l
  | false :: m, _ :: l => aU :: cln m l
/-- some steps at once: up to the cuts (there what isn't read any more is forgotten) -/
def blk (C : Orc) (M : Mi) (K : Kt) (P : Pt3) (cuts : List (Nat × List Bool)) : Nat → Pt3
  | 0 => P
  | n + 1 => stepP C M K (fun pc L S σ => match cutM cuts pc with
    | some m => P pc (cln m L) S σ
    | none => blk C M K P cuts n pc L S σ)
def Mono (C : Orc) : Prop := ∀ (mid : Nat) (as : List Av) (σ : Sg) (K K' : Kt), (∀ r σ, K r σ → K' r σ) → C mid as σ K → C mid as σ K'
def repU : Nat → List Av
  | 0 => []
  | n + 1 => aU :: repU n
/-- the locals at a method's entry -/
def entL : Nat → List Av → List Av
  | n, [] => repU n
  | n, .inr (.inr (.inl x)) :: l => aJ x :: aU :: entL (n - 2) l
  | n, v :: l => v :: entL (n - 1) l
/-! monotone in what comes after -/
def leL : List Av → List Av → Prop
  | [], [] => True
  | v :: l, w :: l' => (v = w ∨ (v = aU ∧ ∀ x, w ≠ aJ x)) ∧ leL l l'
  | _, _ => False
def RelOK (r : List Av → List Av → Prop) : Prop := (∀ L L', r L L' → ∀ k v, nth L k = some v → v ≠ aU → nth L' k = some v) ∧ (∀ L L', r L L' → ∀ k v, r (setL L k v) (setL L' k v)) ∧ ∀ L L', r L L' → noJ L = noJ L'
theorem relEq : RelOK Eq := ⟨fun _ _ h _ _ hk _ => h ▸ hk, fun _ _ h _ _ => h ▸ rfl, fun _ _ h => h ▸ rfl⟩
theorem leL_nth : ∀ L L', leL L L' → ∀ k v, nth L k = some v → v ≠ aU → nth L' k = some v
  | [], [], _, k, v, h, _ => by simp [nth] at h
  | [], _ :: _, h, _, _, _, _ => h.elim
  | _ :: _, [], h, _, _, _, _ => h.elim
  | v :: l, w :: l', h, 0, x, hk, hx => by
    simp only [nth, Option.some.injEq] at hk ⊢
    rcases h.1 with e | e
    · rw [← e]; exact hk
    · exact absurd (hk.symm.trans e.1) hx
  | v :: l, w :: l', h, k + 1, x, hk, hx => leL_nth l l' h.2 k x hk hx
theorem leL_set : ∀ L L', leL L L' → ∀ k v, leL (setL L k v) (setL L' k v)
  | [], [], _, k, v => by simp [setL, leL]
  | [], _ :: _, h, _, _ => h.elim
  | _ :: _, [], h, _, _ => h.elim
  | v :: l, w :: l', h, 0, x => ⟨Or.inl rfl, h.2⟩
  | v :: l, w :: l', h, k + 1, x => ⟨h.1, leL_set l l' h.2 k x⟩
theorem noJ_cons (v : Av) (l : List Av) : noJ (v :: l) = ((match v with | .inr (.inr (.inl _)) => false | _ => true) && noJ l) := by
  rcases v with x | x | x | x <;> simp [noJ]
theorem leL_noJ : ∀ L L', leL L L' → noJ L = noJ L'
  | [], [], _ => rfl
  | [], _ :: _, h => h.elim
  | _ :: _, [], h => h.elim
  | v :: l, w :: l', h => by
    rw [noJ_cons, noJ_cons, leL_noJ l l' h.2]
    rcases h.1 with e | ⟨e, h2⟩
    · rw [e]
    · subst e
      rcases w with x | x | x | x
      · rfl
      · rfl
      · exact absurd rfl (h2 x)
      · rfl
theorem relLe : RelOK leL := ⟨leL_nth, leL_set, leL_noJ⟩
theorem leL_rfl : ∀ L, leL L L
  | [] => True.intro
  | _ :: l => ⟨Or.inl rfl, leL_rfl l⟩
theorem leL_cln : ∀ m L, leL (cln m L) L
  | [], L => leL_rfl L
  | _ :: _, [] => True.intro
  | true :: m, v :: l => ⟨Or.inl rfl, leL_cln m l⟩
  | false :: m, .inl x :: l => ⟨Or.inr ⟨rfl, fun x h => by cases h⟩, leL_cln m l⟩
  | false :: m, .inr (.inl x) :: l => ⟨Or.inr ⟨rfl, fun x h => by cases h⟩, leL_cln m l⟩
  | false :: m, .inr (.inr (.inl x)) :: l => ⟨Or.inl rfl, leL_cln m l⟩
  | false :: m, .inr (.inr (.inr x)) :: l => ⟨Or.inr ⟨rfl, fun x h => by cases h⟩, leL_cln m l⟩
section MONO
variable {r : List Av → List Av → Prop} {P P' : Pt3} {C : Orc} {nx : Nat} {L L' S : List Av} {σ : Sg}
theorem clsP_mono {ci a : Nat} {X Y : Prop} (h : X → Y) : clsP ci a X → clsP ci a Y := by
  unfold clsP
  split
  · exact fun q => ⟨q.1, h q.2⟩
  · exact fun q => ⟨q.1, h q.2⟩
  · exact fun q => ⟨q.1, h q.2⟩
  · split
    · exact h
    · exact id
theorem pLd_mono (hr : RelOK r) (hP : ∀ pc L L' S σ, r L L' → P pc L S σ → P' pc L' S σ) (hL : r L L') {ty k : Nat} (h : pLd P nx L S σ ty k) : pLd P' nx L' S σ ty k := by
  unfold pLd at h ⊢
  split at h
  · next e => rw [hr.1 _ _ hL _ _ e (by intro q; cases q)]; exact hP _ _ _ _ _ hL h
  · next e => rw [hr.1 _ _ hL _ _ e (by intro q; cases q)]; exact hP _ _ _ _ _ hL h
  · next e => rw [hr.1 _ _ hL _ _ e (by intro q; cases q)]; exact hP _ _ _ _ _ hL h
  · exact h.elim
theorem pSt_mono (hr : RelOK r) (hP : ∀ pc L L' S σ, r L L' → P pc L S σ → P' pc L' S σ) (hL : r L L') {ty k : Nat} (h : pSt P nx L S σ ty k) : pSt P' nx L' S σ ty k := by
  unfold pSt at h ⊢
  rw [← hr.2.2 _ _ hL]
  split at h
  · exact h.elim
  · split at h
    · exact hP _ _ _ _ _ (hr.2.1 _ _ hL _ _) h
    · exact hP _ _ _ _ _ (hr.2.1 _ _ hL _ _) h
    · exact h.elim
theorem pB_mono (hP : ∀ pc L L' S σ, r L L' → P pc L S σ → P' pc L' S σ) (hL : r L L') {f : Int → Int → Int} (h : pB P nx L S σ f) : pB P' nx L' S σ f := by
  unfold pB at h ⊢
  split at h
  · exact hP _ _ _ _ _ hL h
  · exact h.elim
theorem pU_mono (hP : ∀ pc L L' S σ, r L L' → P pc L S σ → P' pc L' S σ) (hL : r L L') {f : Int → Int} (h : pU P nx L S σ f) : pU P' nx L' S σ f := by
  unfold pU at h ⊢
  split at h
  · exact hP _ _ _ _ _ hL h
  · exact h.elim
theorem pD_mono (hP : ∀ pc L L' S σ, r L L' → P pc L S σ → P' pc L' S σ) (hL : r L L') {f : Int → Int → Int} (h : pD P nx L S σ f) : pD P' nx L' S σ f := by
  unfold pD at h ⊢
  split at h
  · exact ⟨h.1, hP _ _ _ _ _ hL h.2⟩
  · exact h.elim
theorem pC_mono {c : ClassFile.Cond} {x y : Int} {A B A' B' : Prop} (hA : A → A') (hB : B → B') (h : pC c x y A B) : pC c x y A' B' := by
  cases c <;> first | exact ⟨fun q => hA (h.1 q), fun q => hB (h.2 q)⟩ | exact ⟨fun q => hB (h.1 q), fun q => hA (h.2 q)⟩
theorem pSw_mono (hP : ∀ pc L L' S σ, r L L' → P pc L S σ → P' pc L' S σ) (hL : r L L') {x hi0 lo0 : Int} {d : Nat} : ∀ (ts : List Nat) (lo : Int), pSw P L S σ x d hi0 lo0 ts lo → pSw P' L' S σ x d hi0 lo0 ts lo
  | [], _, h => fun q => hP _ _ _ _ _ hL (h q)
  | t :: ts, lo, h => ⟨fun q => hP _ _ _ _ _ hL (h.1 q), pSw_mono hP hL ts (lo + 1) h.2⟩
theorem pIv_mono (hC : Mono C) (hP : ∀ pc L L' S σ, r L L' → P pc L S σ → P' pc L' S σ) (hL : r L L') {mid n rk : Nat} {cls : Option Nat} (h : pIv C P nx L S σ mid n rk cls) : pIv C P' nx L' S σ mid n rk cls := by
  have key : ∀ (as : List Av) (S : List Av), C mid as σ (pK P nx L S rk) → C mid as σ (pK P' nx L' S rk) := by
    clear h
    intro as S q
    refine hC _ _ _ _ _ (fun r σ' z => ?_) q
    unfold pK at z ⊢
    split at z
    · exact hP _ _ _ _ _ hL z
    · exact hP _ _ _ _ _ hL z
    · exact hP _ _ _ _ _ hL z
  unfold pIv at h ⊢
  split at h
  · exact h.elim
  · split at h
    · exact h.elim
    · split at h
      · exact key _ _ h
      · exact clsP_mono (key _ _) h
      · exact h.elim
set_option maxHeartbeats 4000000 in
theorem stepP_mono {M : Mi} {K K' : Kt} (hC : Mono C) (hr : RelOK r) (hK : ∀ x σ, K x σ → K' x σ) (hP : ∀ pc L L' S σ, r L L' → P pc L S σ → P' pc L' S σ) (hL : r L L') {pc : Nat} (h : stepP C M K P pc L S σ) : stepP C M K' P' pc L' S σ := by
  unfold stepP at h ⊢
  cases hf : ft M.1 pc with
  | none => rw [hf] at h; exact h.elim
  | some e =>
    obtain ⟨i, nx, rs, cv⟩ := e
    rw [hf] at h
    dsimp only at h ⊢
    cases i <;> dsimp only at h ⊢ <;> first
      | exact h.elim
      | exact hP _ _ _ _ _ hL h
      | exact pLd_mono hr hP hL h
      | exact pSt_mono hr hP hL h
      | exact pB_mono hP hL h
      | exact pU_mono hP hL h
      | exact pD_mono hP hL h
      | skip
    case i2l => split at h <;> first | exact hP _ _ _ _ _ hL h | exact h.elim
    case lcmp => split at h <;> first | exact hP _ _ _ _ _ hL h | exact h.elim
    case dup => split at h <;> first | exact hP _ _ _ _ _ hL h | exact h.elim
    case dup2 => split at h <;> first | exact hP _ _ _ _ _ hL h | exact h.elim
    case iinc =>
      split at h
      · next e1 e2 =>
        rw [← hr.2.2 _ _ hL, e1, hr.1 _ _ hL _ _ e2 (by intro q; cases q)]
        exact hP _ _ _ _ _ (hr.2.1 _ _ hL _ _) h
      · exact h.elim
    case goto => split at h <;> first | exact hP _ _ _ _ _ hL h | exact h.elim
    case ifCond => split at h <;> first | exact pC_mono (hP _ _ _ _ _ hL) (hP _ _ _ _ _ hL) h | exact h.elim
    case if_icmp => split at h <;> first | exact pC_mono (hP _ _ _ _ _ hL) (hP _ _ _ _ _ hL) h | exact h.elim
    case tableswitch => split at h <;> first | exact pSw_mono hP hL _ _ h | exact h.elim
    case getfield =>
      split at h
      · refine clsP_mono (fun z => ?_) h
        split at z <;> exact hP _ _ _ _ _ hL z
      · exact h.elim
    case putfield =>
      split at h
      · exact clsP_mono (hP _ _ _ _ _ hL) h
      · exact clsP_mono (fun z => ⟨z.1, hP _ _ _ _ _ hL z.2⟩) h
      · exact clsP_mono (fun z => ⟨z.1, hP _ _ _ _ _ hL z.2⟩) h
      · exact h.elim
    case iaload => split at h <;> first | exact ⟨h.1, h.2.1, hP _ _ _ _ _ hL h.2.2⟩ | exact h.elim
    case iastore => split at h <;> first | exact ⟨h.1, h.2.1, hP _ _ _ _ _ hL h.2.2⟩ | exact h.elim
    case aaload =>
      split at h
      · split at h <;> first | exact ⟨h.1, h.2.1, hP _ _ _ _ _ hL h.2.2⟩ | exact h.elim
      · exact h.elim
    case arraylength => split at h <;> first | exact ⟨h.1, hP _ _ _ _ _ hL h.2⟩ | exact h.elim
    case invokevirtual => split at h <;> first | exact pIv_mono hC hP hL h | exact h.elim
    case invokestatic =>
      split at h
      · exact pIv_mono hC hP hL h
      · split at h
        · split at h
          · exact h.elim
          · exact hP _ _ _ _ _ hL h
        · exact h.elim
      · split at h
        · split at h
          · exact h.elim
          · obtain ⟨h1, h2, h3, h4, h5, h6, h7, h8⟩ := h
            exact ⟨h1, h2, h3, h4, h5, h6, h7, hP _ _ _ _ _ hL h8⟩
        · exact h.elim
      · exact h.elim
    case ireturn =>
      split at h
      · split at h <;> first | exact hK _ _ h | exact ⟨h.1, hK _ _ h.2⟩ | exact h.elim
      · exact h.elim
    case lreturn =>
      split at h
      · split at h <;> first | exact hK _ _ h | exact h.elim
      · exact h.elim
    case return_ =>
      split at h
      · split at h <;> first | exact hK _ _ h | exact h.elim
      · exact h.elim
end MONO
theorem wpStep {C : Orc} (hC : Mono C) {M : Mi} {K : Kt} {pc : Nat} {L S : List Av} {σ : Sg} (h : stepP C M K (wpL C M K) pc L S σ) : wpL C M K pc L S σ := fun P hP =>
  hP _ _ _ _ (stepP_mono hC relEq (fun _ _ q => q) (fun pc L L' S σ e q => e ▸ q P hP) rfl h)
theorem wpForget {C : Orc} (hC : Mono C) {M : Mi} {K : Kt} {pc : Nat} {L L' S : List Av} {σ : Sg} (hL : leL L L') (h : wpL C M K pc L S σ) : wpL C M K pc L' S σ :=
  h (fun pc L S σ => ∀ L', leL L L' → wpL C M K pc L' S σ) (fun _ _ _ _ q _ e => wpStep hC (stepP_mono hC relLe (fun _ _ q => q) (fun _ _ L' _ _ e q => q L' e) e q)) L' hL
theorem wpK {C : Orc} (hC : Mono C) {M : Mi} {K K' : Kt} (hK : ∀ x σ, K x σ → K' x σ) {pc : Nat} {L S : List Av} {σ : Sg} (h : wpL C M K pc L S σ) : wpL C M K' pc L S σ :=
  h (fun pc L S σ => wpL C M K' pc L S σ) (fun _ _ _ _ q => wpStep hC (stepP_mono hC relEq hK (fun _ _ _ _ _ e q => e ▸ q) rfl q))
theorem blkL {C : Orc} (hC : Mono C) {M : Mi} {K : Kt} (cuts : List (Nat × List Bool)) : ∀ (n pc : Nat) (L S : List Av) (σ : Sg), blk C M K (wpL C M K) cuts n pc L S σ → wpL C M K pc L S σ
  | 0, _, _, _, _, h => h
  | n + 1, _, _, _, _, h => wpStep hC (stepP_mono hC relEq (fun _ _ q => q) (fun pc L L' S σ e q => by
      subst e
      split at q
      · exact wpForget hC (leL_cln _ _) q
      · exact blkL hC cuts n _ _ _ _ q) rfl h)
