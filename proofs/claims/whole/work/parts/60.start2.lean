/-! the start, on -/
theorem gil_inj : ∀ i, i < 108 → ∀ j, j < 108 → gil.getD i 0 = gil.getD j 0 → i = j := by decide +kernel
theorem arrV_cg {cA : ClassId} {N : Nat} {f g : Nat → Value} (h : ∀ j, j < N → f j = g j) : arrV cA N f = arrV cA N g := by
  unfold arrV
  congr 2
  funext j
  exact h j.val j.isLt
set_option maxRecDepth 100000 in
theorem wl_P {D : va_G} {cI cQ : ClassId} {h6 h7 : Nat} {β γ : Nat → Nat} {H : Heap} (h : va_P D vwCl (WLf cI cQ h6 β h7 γ) H) : va_P D vwCl (WS cI cQ (al0 h6 β h7 γ) sg0) H := by
  intro k q hk
  have h1 : k < 108 := by have := (List.getElem?_eq_some_iff.mp hk).1; rwa [WS_len] at this
  rw [WS_get h1] at hk
  cases hk
  by_cases e60 : k = 60
  · subst e60
    have h2 : H[β 59]? = some (arrV cQ 8 (fun j => va_rf ((va_up (va_up (va_up (va_up (va_up (va_up (va_up (va_up (fun _ => none) 0 (some (β 60))) 1 (some (β 63))) 2 (some (β 66))) 3 (some (β 69))) 4 (some (β 72))) 5 (some (β 75))) 6 (some (β 78))) 7 (some (β 81))) j))) := h 1 _ rfl
    have e : wcell cI cQ (al0 h6 β h7 γ) sg0 60 = .inl (cQ, 8, .inr (.inr (.inr (.inr (fun j => some (al0 h6 β h7 γ (61 + 3 * j))))))) := rfl
    rw [e]
    show H[β 59]? = some (arrV cQ 8 (fun j => va_rf (some (al0 h6 β h7 γ (61 + 3 * j)))))
    rw [h2]
    refine congrArg some (arrV_cg (fun j hj => ?_))
    rcases (show j = 0 ∨ j = 1 ∨ j = 2 ∨ j = 3 ∨ j = 4 ∨ j = 5 ∨ j = 6 ∨ j = 7 by omega) with rfl | rfl | rfl | rfl | rfl | rfl | rfl | rfl <;> rfl
  · by_cases e86 : k = 86
    · subst e86
      have e : wcell cI cQ (al0 h6 β h7 γ) sg0 86 = .inl (cI, 107, .inl (wayF 25)) := by
        rw [wcell_arr rfl, show (fun j => Int32.ofInt (sg0 86 j)) = wayF 25 from funext fun j => by rw [show sg0 86 j = (wayF 25 j).toInt from if_pos rfl, i32_ofto]]
        rfl
      rw [e]
      exact h 86 _ rfl
    · obtain ⟨e, h2, h3⟩ := wl_all k h1 cI cQ h6 β h7 γ
      rw [← h3 e60 e86]
      exact h _ _ h2
theorem wl_D {A : Nat → Prop} {cI cQ : ClassId} {h6 h7 : Nat} {β γ : Nat → Nat} {σ : Sg} (h : va_D A (WLf cI cQ h6 β h7 γ)) : va_D A (WS cI cQ (al0 h6 β h7 γ) σ) := by
  refine ⟨fun i j p q hi hj hpq => ?_, fun k q hk => ?_⟩
  · have h1 : i < 108 := by have := (List.getElem?_eq_some_iff.mp hi).1; rwa [WS_len] at this
    have h2 : j < 108 := by have := (List.getElem?_eq_some_iff.mp hj).1; rwa [WS_len] at this
    rw [WS_get h1] at hi
    rw [WS_get h2] at hj
    cases hi
    cases hj
    obtain ⟨e1, g1, -⟩ := wl_all i h1 cI cQ h6 β h7 γ
    obtain ⟨e2, g2, -⟩ := wl_all j h2 cI cQ h6 β h7 γ
    exact gil_inj i h1 j h2 (h.1 (gil.getD i 0) (gil.getD j 0) (al0 h6 β h7 γ i, e1) (al0 h6 β h7 γ j, e2) g1 g2 hpq)
  · have h1 : k < 108 := by have := (List.getElem?_eq_some_iff.mp hk).1; rwa [WS_len] at this
    rw [WS_get h1] at hk
    cases hk
    obtain ⟨e1, g1, -⟩ := wl_all k h1 cI cQ h6 β h7 γ
    exact h.2 (gil.getD k 0) (al0 h6 β h7 γ k, e1) g1
/-- the town at the start -/
def T00 : Sg := fun a j => if a = 0 then (if j = 2 then 1 else if j = 4 then 255 else 0) else 0
theorem RS_sg0 : RS sg0 := fun a j => by
  unfold sg0
  split
  · exact i32_R _
  · repeat (first | (exact ⟨by decide, by decide⟩) | split)
theorem way_end : ∀ x, x < 5 → ∀ y, y < 5 → (wayF 25 (10 + 5 * x + y)).toInt = if x = y then 0 else 5 := by decide +kernel
theorem Inv_sg0 : Inv sg0 T00 T00 := by
  have hw : WF T00 := ⟨⟨⟨by decide, by decide⟩, ⟨by decide, by decide⟩, ⟨by decide, by decide⟩, ⟨by decide, by decide⟩, by unfold U8; decide⟩, fun s h => absurd h (by show ¬ (s : Int) < 0; omega), fun a b h => absurd h (by show ¬ (a : Int) < 0; omega), fun p h => absurd h (by show ¬ (p : Int) < 0; omega)⟩
  refine ⟨⟨⟨⟨by decide, by decide, by decide, by decide, by decide⟩, fun s h => absurd h (by show ¬ (s : Int) < 0; omega), fun a b h => absurd h (by show ¬ (a : Int) < 0; omega), fun p h => absurd h (by show ¬ (p : Int) < 0; omega)⟩, fun x y hx hy _ => way_end x hx y hy, fun p s h => absurd h (by show ¬ (p : Int) < 0; omega)⟩, ⟨hw, ⟨by show CLS 0 = 3; decide, ⟨by decide, by decide, by decide, by decide, by decide⟩, fun s h => absurd h (by show ¬ (s : Int) < 0; omega), fun a b h => absurd h (by show ¬ (a : Int) < 0; omega), fun p h => absurd h (by show ¬ (p : Int) < 0; omega)⟩, fun a _ => rfl⟩, Or.inl ⟨by decide, by decide⟩, fun d hd => ?_⟩
  rcases (show d = 0 ∨ d = 1 ∨ d = 2 ∨ d = 3 ∨ d = 4 ∨ d = 5 ∨ d = 6 ∨ d = 7 by omega) with rfl | rfl | rfl | rfl | rfl | rfl | rfl | rfl <;> exact ⟨rfl, Or.inl rfl⟩
