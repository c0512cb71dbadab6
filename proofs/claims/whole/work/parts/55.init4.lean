/-- the model's ways: 5 minutes between two streets -/
def wayF (i : Nat) : Nat → Int32 := fun j => if 10 ≤ j ∧ j < 10 + i then (if (j - 10) / 5 = (j - 10) % 5 then 0 else 5) else if j = 4 then 255 else if j = 2 then 1 else 0
theorem wayF_up {i : Nat} (h : i < 25) : upd (wayF i) (10 + i) (if i / 5 = i % 5 then 0 else 5) = wayF (i + 1) := by
  funext j
  show (if j = 10 + i then (if i / 5 = i % 5 then (0 : Int32) else 5) else (if 10 ≤ j ∧ j < 10 + i then (if (j - 10) / 5 = (j - 10) % 5 then 0 else 5) else if j = 4 then 255 else if j = 2 then 1 else 0)) = (if 10 ≤ j ∧ j < 10 + (i + 1) then (if (j - 10) / 5 = (j - 10) % 5 then 0 else 5) else if j = 4 then 255 else if j = 2 then 1 else 0)
  by_cases h1 : j = 10 + i
  · rw [if_pos h1, if_pos (show 10 ≤ j ∧ j < 10 + (i + 1) by omega), show j - 10 = i by omega]
  · rw [if_neg h1]
    by_cases h2 : 10 ≤ j ∧ j < 10 + i
    · rw [if_pos h2, if_pos (show 10 ≤ j ∧ j < 10 + (i + 1) by omega)]
    · rw [if_neg h2, if_neg (show ¬ (10 ≤ j ∧ j < 10 + (i + 1)) by omega)]
theorem way_i : ∀ i, i < 25 → (10 + nI i).toNatClampNeg = 10 + i ∧ ¬ (25 : Int32) ≤ nI i ∧ (0 ≤ (10 + nI i).toInt ∧ (10 + nI i).toInt < 107) ∧ (nI i / 5 = nI i - nI i / 5 * 5 ↔ i / 5 = i % 5) := by decide +kernel
theorem ci_int2 {p : Program} {l : Launch} {e : Env} {R : Room} {s : State} {m : MethodId} {args : Array Value} {below : List Frame} {meth : Method} {c : Code} {D : va_G} {cI cQ : ClassId} {A : Nat → Prop} {Q : State → Prop} {cells slots : Nat} {pc : Nat} {H : Heap} {locs : List Loc} {ls : Array Slot} {rest : List Value} {cc : ByteArray} {mL : Nat} {own : String} (X : Ci p s m args meth c cc mL own D cI cQ A) {n : Int32} {N : Nat} {x z : Nat × va_E} {P : va_W} (hP : va_P D vwCl (x :: z :: P) H) (hD : va_D A (x :: z :: P)) (hS : va_S A s.heap H locs) (hn : ¬ n < 0) (hN : n.toNatClampNeg = N) (hb : N * 4 ≤ 536870912) (hc : cells + 1 ≤ R.cells) (hs : slots + N ≤ R.slots) (hdg : decode cc pc = .ok (.newarray .int, 2))
    (kk : ∀ (q : Nat) (H1 : Heap), va_P D vwCl (x :: z :: (q, .inl (cI, N, .inl (fun _ => 0))) :: P) H1 → va_D A (x :: z :: (q, .inl (cI, N, .inl (fun _ => 0))) :: P) → va_S A s.heap H1 locs → W p l e R s m args below meth c H1 locs (cells + 1) (slots + N) Q (F0 m (pc + 2) ls (.ref q :: rest))) : W p l e R s m args below meth c H locs cells slots Q (F0 m pc ls (.int n :: rest)) :=
  ci_int X hP hD hS hn hN hb hc hs hdg fun q H1 hP hD hS => kk q H1 (va_P.swap (a := [x, z]) (b := P) (c := [(q, .inl (cI, N, .inl (fun _ => 0)))]) hP) (va_D.swap (a := [x, z]) (b := P) (c := [(q, .inl (cI, N, .inl (fun _ => 0)))]) hD) hS
set_option maxHeartbeats 4000000 in
set_option maxRecDepth 100000 in
theorem cm_loop {p : Program} {l : Launch} {e : Env} {R : Room} {s : State} {m : MethodId} {args : Array Value} {below : List Frame} {meth : Method} {c : Code} {D : va_G} {cI cQ : ClassId} {A : Nat → Prop} {Q : State → Prop} {cells slots : Nat} (X : Ci p s m args meth c prog_9_method_1_code 2 RX7 D cI cQ A) {h0 q0 : Nat} {fs : List Value} {P : va_W} (h0s : fs[0]? = some (.ref q0))
    (kk : ∀ (H : Heap) (locs : List Loc) (ls : Array Slot), va_P D vwCl ((h0, .inr (7, fs)) :: (q0, .inl (cI, 107, .inl (wayF 25))) :: P) H → va_D A ((h0, .inr (7, fs)) :: (q0, .inl (cI, 107, .inl (wayF 25))) :: P) → va_S A s.heap H locs → W p l e R s m args below meth c H locs cells slots Q (F0 m 232 ls [])) :
    ∀ (n i : Nat), i + n = 25 → ∀ (H : Heap) (locs : List Loc) (ls : Array Slot), lv_has ls 2 [(1, .int (nI i)), (0, .ref h0)] → va_P D vwCl ((h0, .inr (7, fs)) :: (q0, .inl (cI, 107, .inl (wayF i))) :: P) H → va_D A ((h0, .inr (7, fs)) :: (q0, .inl (cI, 107, .inl (wayF i))) :: P) → va_S A s.heap H locs → W p l e R s m args below meth c H locs cells slots Q (F0 m 197 ls []) := by
  intro n
  induction n with
  | zero =>
    intro i hi H locs ls hl hP hD hS
    obtain rfl : i = 25 := by omega
    refine lv_iload_n X.1 X.2.1 (show decode prog_9_method_1_code 197 = .ok (.iload_n 1, 1) by decide +kernel) rfl (lv_at hl 0 rfl) ?_
    refine lv_bipush (v := 25) X.1 X.2.1 (show decode prog_9_method_1_code 198 = .ok (.bipush 25, 2) by decide +kernel) (by decide) ?_
    refine lv_icmp_ge (tgt := 232) X.1 X.2.1 (show decode prog_9_method_1_code 200 = .ok (.if_icmp .ge 32, 3) by decide +kernel) (by decide) (fun _ => ?_) (fun h => absurd (by decide) h)
    exact kk H locs ls hP hD hS
  | succ n ih =>
    intro i hi H locs ls hl hP hD hS
    obtain ⟨w1, w2, w3, w4⟩ := way_i i (by omega)
    refine lv_iload_n X.1 X.2.1 (show decode prog_9_method_1_code 197 = .ok (.iload_n 1, 1) by decide +kernel) rfl (lv_at hl 0 rfl) ?_
    refine lv_bipush (v := 25) X.1 X.2.1 (show decode prog_9_method_1_code 198 = .ok (.bipush 25, 2) by decide +kernel) (by decide) ?_
    refine lv_icmp_ge (tgt := 232) X.1 X.2.1 (show decode prog_9_method_1_code 200 = .ok (.if_icmp .ge 32, 3) by decide +kernel) (by decide) (fun h => absurd h w2) (fun _ => ?_)
    refine lv_aload_n X.1 X.2.1 (show decode prog_9_method_1_code 203 = .ok (.aload_n 0, 1) by decide +kernel) rfl (lv_at hl 1 rfl) ?_
    refine ci_get (k := 0) (idx := 9) X rfl (by decide) hP (gd_t (mt5 68 rfl) rfl) rfl h0s (show decode prog_9_method_1_code 204 = .ok (.getfield 9, 3) by decide +kernel) ?_
    refine lv_bipush (v := 10) X.1 X.2.1 (show decode prog_9_method_1_code 207 = .ok (.bipush 10, 2) by decide +kernel) (by decide) ?_
    refine lv_iload_n X.1 X.2.1 (show decode prog_9_method_1_code 209 = .ok (.iload_n 1, 1) by decide +kernel) rfl (lv_at hl 0 rfl) ?_
    refine lv_iadd X.1 X.2.1 (show decode prog_9_method_1_code 210 = .ok (.iadd, 1) by decide +kernel) ?_
    refine lv_iload_n X.1 X.2.1 (show decode prog_9_method_1_code 211 = .ok (.iload_n 1, 1) by decide +kernel) rfl (lv_at hl 0 rfl) ?_
    refine lv_iconst (v := 5) X.1 X.2.1 (show decode prog_9_method_1_code 212 = .ok (.iconst 5, 1) by decide +kernel) (by decide) ?_
    refine lv_idiv X.1 X.2.1 (show decode prog_9_method_1_code 213 = .ok (.idiv, 1) by decide +kernel) (by decide) ?_
    refine lv_iload_n X.1 X.2.1 (show decode prog_9_method_1_code 214 = .ok (.iload_n 1, 1) by decide +kernel) rfl (lv_at hl 0 rfl) ?_
    refine lv_iconst (v := 5) X.1 X.2.1 (show decode prog_9_method_1_code 215 = .ok (.iconst 5, 1) by decide +kernel) (by decide) ?_
    refine lv_irem X.1 X.2.1 (show decode prog_9_method_1_code 216 = .ok (.irem, 1) by decide +kernel) (by decide) ?_
    have fin : ∀ v : Int32, v = (if i / 5 = i % 5 then 0 else 5) → W p l e R s m args below meth c H locs cells slots Q (F0 m 225 ls [.int v, .int (10 + nI i), .ref q0]) := by
      intro v hv
      refine va_iast X.1 X.2.1 X.2.2.2.2.2.2.1 hP hD hS 1 0 rfl rfl (by rw [vp_in_iff]; exact w3) (show decode prog_9_method_1_code 225 = .ok (.iastore, 1) by decide +kernel) (fun H locs hP hD hS => ?_)
      rw [w1, hv, wayF_up (by omega)] at hP hD
      refine lv_iinc (v := nI (i + 1)) (lv' := [(1, .int (nI (i + 1))), (0, .ref h0)]) X.1 X.2.1 (show decode prog_9_method_1_code 226 = .ok (.iinc 1 1, 3) by decide +kernel) hl (k := 0) rfl (nI_succ i).symm (by decide) rfl (fun ls hl => ?_)
      refine lv_goto (tgt := 197) X.1 X.2.1 (show decode prog_9_method_1_code 229 = .ok (.goto (-32), 3) by decide +kernel) (by decide) ?_
      exact ih (i + 1) (by omega) H locs ls hl hP hD hS
    refine lv_icmp_ne (tgt := 224) X.1 X.2.1 (show decode prog_9_method_1_code 217 = .ok (.if_icmp .ne 7, 3) by decide +kernel) (by decide) (fun h => ?_) (fun h => ?_)
    · refine lv_iconst (v := 5) X.1 X.2.1 (show decode prog_9_method_1_code 224 = .ok (.iconst 5, 1) by decide +kernel) (by decide) ?_
      exact fin 5 (by rw [if_neg (fun q => h (w4.mpr q))])
    · refine lv_iconst (v := 0) X.1 X.2.1 (show decode prog_9_method_1_code 220 = .ok (.iconst 0, 1) by decide +kernel) (by decide) ?_
      refine lv_goto (tgt := 225) X.1 X.2.1 (show decode prog_9_method_1_code 221 = .ok (.goto 4, 3) by decide +kernel) (by decide) ?_
      exact fin 0 (by rw [if_pos (w4.mp h)])
