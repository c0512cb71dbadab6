/-! THE WORLD of a state, at the addresses α -/
def cellV (α : Nat → Nat) (σ : Sg) (ci a k : Nat) : Value := match FK ci k with
  | 2 => .ref (α (σ a k).toNat)
  | 3 => .ref (α (RF ci k a))
  | _ => .int (Int32.ofInt (σ a k))
def wcell (cI cQ : ClassId) (α : Nat → Nat) (σ : Sg) (a : Nat) : va_E :=
  if CLS a < 8 then .inr (CLS a, (List.range (NFl.getD (CLS a) 0)).map (cellV α σ (CLS a) a))
  else if CLS a = 91 then .inl (cQ, 8, .inr (.inr (.inr (.inr (fun j => some (α (61 + 3 * j)))))))
  else .inl (cI, LNl.getD a 0, .inl (fun j => Int32.ofInt (σ a j)))
def WS (cI cQ : ClassId) (α : Nat → Nat) (σ : Sg) : va_W := (List.range 108).map (fun a => (α a, wcell cI cQ α σ a))
def tyl (cI cQ : ClassId) : List (ClassId × FieldType) := [(cI, .int), (cQ, .object RX2)]
theorem WS_get {cI cQ : ClassId} {α : Nat → Nat} {σ : Sg} {a : Nat} (h : a < 108) : (WS cI cQ α σ)[a]? = some (α a, wcell cI cQ α σ a) := by
  unfold WS
  rw [List.getElem?_map, List.getElem?_range h]
  rfl
theorem WS_len {cI cQ : ClassId} {α : Nat → Nat} {σ : Sg} : (WS cI cQ α σ).length = 108 := by simp [WS]
theorem WS_set {cI cQ : ClassId} {α : Nat → Nat} {σ σ' : Sg} {a : Nat} {e : va_E} (he : e = wcell cI cQ α σ' a) (ho : ∀ b, b ≠ a → wcell cI cQ α σ' b = wcell cI cQ α σ b) : (WS cI cQ α σ).set a (α a, e) = WS cI cQ α σ' := by
  subst he
  apply List.ext_getElem?
  intro b
  by_cases hb : b < 108
  · rw [WS_get hb]
    by_cases hab : b = a
    · subst hab
      rw [List.getElem?_set_self (by rw [WS_len]; exact hb)]
    · rw [List.getElem?_set_ne (Ne.symm hab), WS_get hb, ho b hab]
  · rw [List.getElem?_eq_none (by rw [List.length_set, WS_len]; omega), List.getElem?_eq_none (by rw [WS_len]; omega)]
theorem cellV_eq {α : Nat → Nat} {σ σ' : Sg} {ci a k : Nat} (h : σ' a k = σ a k) : cellV α σ' ci a k = cellV α σ ci a k := by unfold cellV; rw [h]
theorem wcell_eq {cI cQ : ClassId} {α : Nat → Nat} {σ σ' : Sg} {a : Nat} (h : ∀ k, σ' a k = σ a k) : wcell cI cQ α σ' a = wcell cI cQ α σ a := by
  unfold wcell
  have h1 : cellV α σ' (CLS a) a = cellV α σ (CLS a) a := funext fun k => cellV_eq (h k)
  have h2 : (fun j => Int32.ofInt (σ' a j)) = (fun j => Int32.ofInt (σ a j)) := funext fun k => by rw [h k]
  rw [h1, h2]
theorem up_ne {σ : Sg} {a k b j : Nat} {v : Int} (h : b ≠ a) : up σ a k v b j = σ b j := by unfold up; rw [if_neg (fun q => h q.1)]
theorem up_nk {σ : Sg} {a k b j : Nat} {v : Int} (h : j ≠ k) : up σ a k v b j = σ b j := by unfold up; rw [if_neg (fun q => h q.2)]
theorem up_self {σ : Sg} {a k : Nat} {v : Int} : up σ a k v a k = v := by unfold up; rw [if_pos ⟨rfl, rfl⟩]
theorem CLS_lt {a : Nat} (h : CLS a < 98) : a < 108 := by
  by_cases q : a < 108
  · exact q
  · unfold CLS at h
    rw [List.getD_eq_getElem?_getD, List.getElem?_eq_none (by simp [CLl]; omega)] at h
    simp at h
theorem LEN_lt {a : Nat} (h : 0 < LEN a) : a < 108 ∧ CLS a = 90 := by
  have h1 : a < 108 := by
    by_cases q : a < 108
    · exact q
    · unfold LEN at h
      rw [List.getD_eq_getElem?_getD, List.getElem?_eq_none (by simp [LNl]; omega)] at h
      simp at h
  refine ⟨h1, ?_⟩
  have key : ∀ a, a < 108 → 0 < LNl.getD a 0 → CLS a = 90 := by decide +kernel
  exact key a h1 (Int.ofNat_lt.mp h)
theorem wcell_arr {cI cQ : ClassId} {α : Nat → Nat} {σ : Sg} {a : Nat} (h : CLS a = 90) : wcell cI cQ α σ a = .inl (cI, LNl.getD a 0, .inl (fun j => Int32.ofInt (σ a j))) := by
  unfold wcell; rw [h]; rfl
theorem wcell_obj {cI cQ : ClassId} {α : Nat → Nat} {σ : Sg} {a ci : Nat} (h : CLS a = ci) (h8 : ci < 8) : wcell cI cQ α σ a = .inr (ci, (List.range (NFl.getD ci 0)).map (cellV α σ ci a)) := by
  unfold wcell; rw [h, if_pos h8]
theorem va_D_ws {A : Nat → Prop} {cI cQ : ClassId} {α : Nat → Nat} {σ σ' : Sg} (h : va_D A (WS cI cQ α σ)) : va_D A (WS cI cQ α σ') := by
  have key : ∀ (k : Nat) (q : Nat × va_E), (WS cI cQ α σ')[k]? = some q → ∃ q0, (WS cI cQ α σ)[k]? = some q0 ∧ q0.1 = q.1 := by
    intro k q hk
    have hl : k < 108 := by
      have := (List.getElem?_eq_some_iff.mp hk).1
      rwa [WS_len] at this
    rw [WS_get hl] at hk
    cases hk
    exact ⟨_, WS_get hl, rfl⟩
  refine ⟨fun i j p q hi hj e => ?_, fun k q hk => ?_⟩
  · obtain ⟨p0, a1, b1⟩ := key i p hi
    obtain ⟨q0, a2, b2⟩ := key j q hj
    exact h.1 i j p0 q0 a1 a2 (b1.trans (e.trans b2.symm))
  · obtain ⟨q0, a1, b1⟩ := key k q hk
    rw [← b1]
    exact h.2 k q0 a1
theorem va_A_ws {cI cQ : ClassId} {α : Nat → Nat} {σ σ' : Sg} {sz q : Nat} (h : va_A (WS cI cQ α σ) sz q) : va_A (WS cI cQ α σ') sz q := by
  rcases h with ⟨k, e, hk⟩ | h
  · have hl : k < 108 := by
      have := (List.getElem?_eq_some_iff.mp hk).1
      rwa [WS_len] at this
    rw [WS_get hl] at hk
    cases hk
    exact Or.inl ⟨k, _, WS_get hl⟩
  · exact Or.inr h
/-! values, locals -/
def tr (α : Nat → Nat) : Av → Value
  | .inl x => .int (Int32.ofInt x)
  | .inr (.inl a) => .ref (α a)
  | .inr (.inr (.inl x)) => .long (Int64.ofInt x)
  | .inr (.inr (.inr _)) => .null
def Rv : Av → Prop
  | .inl x => R32 x
  | .inr (.inr (.inl x)) => R32 x
  | _ => True
def RL (L : List Av) : Prop := ∀ v ∈ L, Rv v
def RS (σ : Sg) : Prop := ∀ a k, R32 (σ a k)
theorem RL_nil : RL [] := fun _ h => by cases h
theorem RL_cons {v : Av} {l : List Av} (h : Rv v) (hl : RL l) : RL (v :: l) := fun w hw => by
  rcases List.mem_cons.mp hw with rfl | hw
  · exact h
  · exact hl w hw
theorem RL_tl {v : Av} {l : List Av} (h : RL (v :: l)) : RL l := fun w hw => h w (List.mem_cons_of_mem _ hw)
theorem RL_hd {v : Av} {l : List Av} (h : RL (v :: l)) : Rv v := h v List.mem_cons_self
theorem nth_mem : ∀ {L : List Av} {k : Nat} {v : Av}, nth L k = some v → v ∈ L
  | _ :: _, 0, _, h => by simp only [nth, Option.some.injEq] at h; rw [h]; exact List.mem_cons_self
  | _ :: _, k + 1, _, h => List.mem_cons_of_mem _ (nth_mem (k := k) h)
theorem RL_set : ∀ {L : List Av} {k : Nat} {v : Av}, Rv v → RL L → RL (setL L k v)
  | [], _, _, _, _ => RL_nil
  | _ :: _, 0, _, hv, h => RL_cons hv (RL_tl h)
  | _ :: _, k + 1, _, hv, h => RL_cons (RL_hd h) (RL_set (k := k) hv (RL_tl h))
theorem RS_up {σ : Sg} {a k : Nat} {v : Int} (h : RS σ) (hv : R32 v) : RS (up σ a k v) := fun b j => by
  unfold up
  split
  · exact hv
  · exact h b j
theorem RS_cpy {σ : Sg} {a0 a : Nat} {sp dp n : Int} (h : RS σ) : RS (cpy σ a0 sp a dp n) := fun b j => by
  unfold cpy
  split
  · exact h _ _
  · exact h b j
def lvR (α : Nat → Nat) (ls : Array Slot) (L : List Av) : Prop := ls.size = L.length ∧ lv_wf ls ∧ ∀ k v, nth L k = some v → v ≠ aU → ls[k]? = some (.val (tr α v))
def lst (α : Nat → Nat) : Nat → List Av → List (Nat × Value)
  | _, [] => []
  | i, .inr (.inr (.inr _)) :: l => lst α (i + 1) l
  | i, v :: l => (i, tr α v) :: lst α (i + 1) l
theorem lst_mem {α : Nat → Nat} : ∀ (L : List Av) (i : Nat) (q : Nat × Value), q ∈ lst α i L → ∃ k v, nth L k = some v ∧ v ≠ aU ∧ q = (i + k, tr α v)
  | [], _, _, h => by simp [lst] at h
  | .inl x :: l, i, q, h => by
    rcases List.mem_cons.mp h with rfl | h
    · exact ⟨0, _, rfl, (fun e => nomatch e), rfl⟩
    · obtain ⟨k, v, h1, h2, h3⟩ := lst_mem l (i + 1) q h
      exact ⟨k + 1, v, h1, h2, by rw [h3, Nat.add_assoc, Nat.add_comm 1 k]⟩
  | .inr (.inl x) :: l, i, q, h => by
    rcases List.mem_cons.mp h with rfl | h
    · exact ⟨0, _, rfl, (fun e => nomatch e), rfl⟩
    · obtain ⟨k, v, h1, h2, h3⟩ := lst_mem l (i + 1) q h
      exact ⟨k + 1, v, h1, h2, by rw [h3, Nat.add_assoc, Nat.add_comm 1 k]⟩
  | .inr (.inr (.inl x)) :: l, i, q, h => by
    rcases List.mem_cons.mp h with rfl | h
    · exact ⟨0, _, rfl, (fun e => nomatch e), rfl⟩
    · obtain ⟨k, v, h1, h2, h3⟩ := lst_mem l (i + 1) q h
      exact ⟨k + 1, v, h1, h2, by rw [h3, Nat.add_assoc, Nat.add_comm 1 k]⟩
  | .inr (.inr (.inr x)) :: l, i, q, h => by
    obtain ⟨k, v, h1, h2, h3⟩ := lst_mem l (i + 1) q h
    exact ⟨k + 1, v, h1, h2, by rw [h3, Nat.add_assoc, Nat.add_comm 1 k]⟩
theorem lst_of {α : Nat → Nat} : ∀ (L : List Av) (i k : Nat) (v : Av), nth L k = some v → v ≠ aU → (i + k, tr α v) ∈ lst α i L
  | .inl x :: l, i, 0, v, h, _ => by simp only [nth, Option.some.injEq] at h; subst h; exact List.mem_cons_self
  | .inr (.inl x) :: l, i, 0, v, h, _ => by simp only [nth, Option.some.injEq] at h; subst h; exact List.mem_cons_self
  | .inr (.inr (.inl x)) :: l, i, 0, v, h, _ => by simp only [nth, Option.some.injEq] at h; subst h; exact List.mem_cons_self
  | .inr (.inr (.inr x)) :: l, i, 0, v, h, h2 => by simp only [nth, Option.some.injEq] at h; exact absurd h.symm h2
  | .inl x :: l, i, k + 1, v, h, h2 => List.mem_cons_of_mem _ (by have := lst_of (α := α) l (i + 1) k v h h2; rwa [Nat.add_assoc, Nat.add_comm 1 k] at this)
  | .inr (.inl x) :: l, i, k + 1, v, h, h2 => List.mem_cons_of_mem _ (by have := lst_of (α := α) l (i + 1) k v h h2; rwa [Nat.add_assoc, Nat.add_comm 1 k] at this)
  | .inr (.inr (.inl x)) :: l, i, k + 1, v, h, h2 => List.mem_cons_of_mem _ (by have := lst_of (α := α) l (i + 1) k v h h2; rwa [Nat.add_assoc, Nat.add_comm 1 k] at this)
  | .inr (.inr (.inr x)) :: l, i, k + 1, v, h, h2 => by have := lst_of (α := α) l (i + 1) k v h h2; rwa [Nat.add_assoc, Nat.add_comm 1 k] at this
theorem lvR_has {α : Nat → Nat} {ls : Array Slot} {L : List Av} (h : lvR α ls L) : lv_has ls L.length (lst α 0 L) := ⟨h.1, h.2.1, fun q hq => by
  obtain ⟨k, v, h1, h2, rfl⟩ := lst_mem L 0 q hq
  rw [Nat.zero_add]
  exact h.2.2 k v h1 h2⟩
theorem setL_len : ∀ (L : List Av) (k : Nat) (v : Av), (setL L k v).length = L.length
  | [], _, _ => rfl
  | _ :: _, 0, _ => rfl
  | _ :: l, k + 1, v => by simp only [setL, List.length_cons, setL_len l k v]
theorem nth_set : ∀ (L : List Av) (k j : Nat) (v w : Av), nth (setL L k v) j = some w → (j = k ∧ w = v) ∨ (j ≠ k ∧ nth L j = some w)
  | [], _, _, _, _, h => by simp [setL, nth] at h
  | _ :: _, 0, 0, v, w, h => Or.inl ⟨rfl, by simp only [setL, nth, Option.some.injEq] at h; exact h.symm⟩
  | _ :: _, 0, j + 1, v, w, h => Or.inr ⟨by omega, h⟩
  | _ :: _, k + 1, 0, v, w, h => Or.inr ⟨by omega, h⟩
  | _ :: l, k + 1, j + 1, v, w, h => by
    rcases nth_set l k j v w h with ⟨a, b⟩ | ⟨a, b⟩
    · exact Or.inl ⟨by omega, b⟩
    · exact Or.inr ⟨by omega, b⟩
theorem noJ_cat {α : Nat → Nat} : ∀ (L : List Av), noJ L = true → ∀ v ∈ L, (tr α v).category = 1
  | [], _, _, h => by cases h
  | .inl x :: l, hn, v, h => by
    rcases List.mem_cons.mp h with rfl | h
    · rfl
    · exact noJ_cat l hn v h
  | .inr (.inl x) :: l, hn, v, h => by
    rcases List.mem_cons.mp h with rfl | h
    · rfl
    · exact noJ_cat l hn v h
  | .inr (.inr (.inl x)) :: l, hn, v, h => by simp [noJ] at hn
  | .inr (.inr (.inr x)) :: l, hn, v, h => by
    rcases List.mem_cons.mp h with rfl | h
    · rfl
    · exact noJ_cat l hn v h
theorem lvR_set {α : Nat → Nat} {ls : Array Slot} {L : List Av} {k : Nat} {v : Av} (hn : noJ L = true) (h : lv_has ls L.length ((k, tr α v) :: (lst α 0 L).filter (fun q => !(q.1 == k) && !(q.1 + 1 == k && q.2.category == 2)))) : lvR α ls (setL L k v) := by
  refine ⟨by rw [setL_len]; exact h.1, h.2.1, fun j w hj hw => ?_⟩
  rcases nth_set L k j v w hj with ⟨rfl, rfl⟩ | ⟨h1, h2⟩
  · exact h.2.2 _ List.mem_cons_self
  · have h3 := lst_of (α := α) L 0 j w h2 hw
    rw [Nat.zero_add] at h3
    have hc := noJ_cat (α := α) L hn w (nth_mem h2)
    refine h.2.2 (j, tr α w) (List.mem_cons_of_mem _ (List.mem_filter.mpr ⟨h3, ?_⟩))
    simp [h1, hc]
theorem catS_sum {α : Nat → Nat} : ∀ (S : List Av), ((S.map (tr α)).map fun v => v.category).sum = catS S
  | [] => rfl
  | .inl x :: l => (congrArg (fun z => 1 + z) (catS_sum (α := α) l)).trans (Nat.add_comm 1 _)
  | .inr (.inl x) :: l => (congrArg (fun z => 1 + z) (catS_sum (α := α) l)).trans (Nat.add_comm 1 _)
  | .inr (.inr (.inl x)) :: l => (congrArg (fun z => 2 + z) (catS_sum (α := α) l)).trans (Nat.add_comm 2 _)
  | .inr (.inr (.inr x)) :: l => (congrArg (fun z => 1 + z) (catS_sum (α := α) l)).trans (Nat.add_comm 1 _)
theorem takeN_spec : ∀ (n : Nat) (acc S as S' : List Av), takeN n acc S = some (as, S') → ∃ bs, S = bs ++ S' ∧ bs.length = n ∧ as = bs.reverse ++ acc
  | 0, acc, S, as, S', h => by
    simp only [takeN, Option.some.injEq, Prod.mk.injEq] at h
    exact ⟨[], by rw [h.2]; rfl, rfl, by rw [h.1]; rfl⟩
  | n + 1, acc, [], as, S', h => by simp [takeN] at h
  | n + 1, acc, v :: S, as, S', h => by
    obtain ⟨bs, h1, h2, h3⟩ := takeN_spec n (v :: acc) S as S' h
    exact ⟨v :: bs, by rw [h1]; rfl, by rw [List.length_cons, h2], by rw [h3, List.reverse_cons, List.append_assoc]; rfl⟩
theorem entL_len : ∀ (n : Nat) (as : List Av), catS as ≤ n → (entL n as).length = n
  | n, [], _ => by
    have : ∀ k, (repU k).length = k := fun k => by induction k with
      | zero => rfl
      | succ k ih => simp only [repU, List.length_cons, ih]
    simp only [entL, this]
  | n, .inl x :: l, h => by
    have h : catS l + 1 ≤ n := h
    have := entL_len (n - 1) l (by omega)
    simp only [entL, List.length_cons, this]; omega
  | n, .inr (.inl x) :: l, h => by
    have h : catS l + 1 ≤ n := h
    have := entL_len (n - 1) l (by omega)
    simp only [entL, List.length_cons, this]; omega
  | n, .inr (.inr (.inl x)) :: l, h => by
    have h : catS l + 2 ≤ n := h
    have := entL_len (n - 2) l (by omega)
    simp only [entL, List.length_cons, this]; omega
  | n, .inr (.inr (.inr x)) :: l, h => by
    have h : catS l + 1 ≤ n := h
    have := entL_len (n - 1) l (by omega)
    simp only [entL, List.length_cons, this]; omega
theorem entL_arg {α : Nat → Nat} : ∀ (n : Nat) (as : List Av) (i k : Nat) (v : Av), nth (entL n as) k = some v → v ≠ aU → (i + k, tr α v) ∈ lv_args i (as.map (tr α))
  | n, [], i, k, v, h, h2 => by
    exfalso
    have key : ∀ (m k : Nat), nth (repU m) k = some v → v = aU := by
      intro m
      induction m with
      | zero => intro k q; simp [repU, nth] at q
      | succ m ih =>
        intro k q
        cases k with
        | zero => simp only [repU, nth, Option.some.injEq] at q; exact q.symm
        | succ k => exact ih k q
    exact h2 (key n k h)
  | n, .inl x :: l, i, 0, v, h, _ => by simp only [entL, nth, Option.some.injEq] at h; subst h; exact List.mem_cons_self
  | n, .inr (.inl x) :: l, i, 0, v, h, _ => by simp only [entL, nth, Option.some.injEq] at h; subst h; exact List.mem_cons_self
  | n, .inr (.inr (.inl x)) :: l, i, 0, v, h, _ => by simp only [entL, nth, Option.some.injEq] at h; subst h; exact List.mem_cons_self
  | n, .inr (.inr (.inr x)) :: l, i, 0, v, h, h2 => by simp only [entL, nth, Option.some.injEq] at h; exact absurd h.symm h2
  | n, .inl x :: l, i, k + 1, v, h, h2 => List.mem_cons_of_mem _ (by have := entL_arg (α := α) (n - 1) l (i + 1) k v h h2; rwa [Nat.add_assoc, Nat.add_comm 1 k] at this)
  | n, .inr (.inl x) :: l, i, k + 1, v, h, h2 => List.mem_cons_of_mem _ (by have := entL_arg (α := α) (n - 1) l (i + 1) k v h h2; rwa [Nat.add_assoc, Nat.add_comm 1 k] at this)
  | n, .inr (.inr (.inr x)) :: l, i, k + 1, v, h, h2 => List.mem_cons_of_mem _ (by have := entL_arg (α := α) (n - 1) l (i + 1) k v h h2; rwa [Nat.add_assoc, Nat.add_comm 1 k] at this)
  | n, .inr (.inr (.inl x)) :: l, i, 1, v, h, h2 => by simp only [entL, nth, Option.some.injEq] at h; exact absurd h.symm h2
  | n, .inr (.inr (.inl x)) :: l, i, k + 2, v, h, h2 => List.mem_cons_of_mem _ (by have := entL_arg (α := α) (n - 2) l (i + 2) k v h h2; rwa [Nat.add_assoc, Nat.add_comm 2 k] at this)
