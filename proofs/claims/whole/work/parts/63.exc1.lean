/-! EXCEPTIONS: what a throw needs of the state, and how it goes along (written by genexc.py) -/
abbrev xnU : String := "java/lang/UnsupportedOperationException"
abbrev xnA : String := "java/lang/IllegalArgumentException"
abbrev xnS : String := "java/lang/IllegalStateException"
abbrev nmsE : List String := ["java/lang/RuntimeException", "java/lang/Exception"]
def dclE : List MethodName := [⟨"java/lang/RuntimeException", "<init>", "(Ljava/lang/String;)V"⟩, ⟨"java/lang/Exception", "<init>", "(Ljava/lang/String;)V"⟩, ⟨"java/lang/Throwable", "<init>", "(Ljava/lang/String;)V"⟩]
def exsE : List String := [xnU, xnA, xnS]
def ncsE : List (String × String) := [(xnA, xnU), (xnS, xnU), (xnS, xnA)]
def strE : List (String × Nat × String) := [("OneEach$Move", 79, "a hidden one"), ("OneEach$Move", 86, "a pair"), ("OneEach$Move", 91, "a move"), ("OneEach", 290, "no such shelf"), ("OneEach", 297, "no row"), ("OneEach", 300, "no such place")]
def XE (A : Nat → Prop) (U : State) : Prop := (vx_Zq Bundle.tN "UNASSIGNED_STACK" Bundle.steD A U U.heap ∧ vx_Zq Bundle.tN "SUPPRESSED_SENTINEL" Bundle.listD A U U.heap) ∧ (∀ q ∈ strE, ∃ a, vk_R q.1 q.2.1 q.2.2 a U) ∧ (∀ x ∈ dclE, va_Nw (.declares x) U) ∧ (∀ x ∈ exsE, va_Nw (.castable x x) U) ∧ ∀ q ∈ ncsE, va_Nc q.1 q.2 U
theorem XE.warm {A A1 : Nat → Prop} {s U : State} {H : Heap} {locs : List Loc} (h : XE A s) (hW : s.WarmedH U.vm) (hU : U.heap = H) (hS : va_S A s.heap H locs) (hA : ∀ q, A1 q → A q) : XE A1 U := by
  obtain ⟨⟨h1, h2⟩, h3, h4, h5, h6⟩ := h
  subst hU
  exact ⟨⟨((vx_Zq.moved hW.alike h1).kept hS.2.1).narrow hA, ((vx_Zq.moved hW.alike h2).kept hS.2.1).narrow hA⟩, fun q hq => (h3 q hq).imp fun a ha => vk_R.warm hW ha, fun x hx => va_Nw.warmD hW (h4 x hx), fun x hx => va_Nw.warmC hW (h5 x hx), fun q hq => va_Nc.moved hW.alike (h6 q hq)⟩
theorem XE.call {A : Nat → Prop} {U : State} {g : JFrame} {mk : MethodId} {a : Array Value} (h : XE A U) : XE A (U.calling g mk a) := by
  obtain ⟨⟨h1, h2⟩, h3, h4, h5, h6⟩ := h
  exact ⟨⟨vx_Zq.moved (u := U) (U := U.calling g mk a) (Vm.Alike.refl U.vm) h1, vx_Zq.moved (u := U) (U := U.calling g mk a) (Vm.Alike.refl U.vm) h2⟩, fun q hq => (h3 q hq).imp fun a9 ha => vk_R.same (u := U) (U := U.calling g mk a) rfl ha, fun x hx => va_Nw.same (u := U) (U := U.calling g mk a) rfl rfl (h4 x hx), fun x hx => va_Nw.same (u := U) (U := U.calling g mk a) rfl rfl (h5 x hx), fun q hq => va_Nc.moved (u := U) (U := U.calling g mk a) (Vm.Alike.refl U.vm) (h6 q hq)⟩
/-- the words of a throw, decided by program -/
def XTK (own : String) (ik ic : Nat) (cls : String) : Prop := (∀ w ∈ vx_atS own ic cls nmsE, w ∈ tables_1) ∧ (∀ w ∈ (vx_atS own ic cls nmsE).filter (fun w => !goodWord w), w ∈ Cond.castable cls cls :: dclE.map Cond.declares) ∧ (∀ w ∈ Cond.classLink own ik cls :: Cond.initialized cls :: vx_atS own ic cls nmsE, vx_ot w = true) ∧ Cond.classLink own ik cls ∈ lw_good ∧ Cond.initialized cls ∈ lw_good ∧ cls ∈ exsE ∧ Bundle.fit cls = true
theorem fil_mem {ws : List Cond} (ps : List Nat) (hp : ws = ps.filterMap (fun i => tables_1[i]?)) : ∀ w ∈ ws, w ∈ tables_1 := fun w hw => by
  rw [hp] at hw
  obtain ⟨i, -, hi⟩ := List.mem_filterMap.mp hw
  exact List.mem_of_getElem? hi
set_option maxRecDepth 100000 in
theorem xok_0 : XTK "OneEach$Move" 77 81 xnU := ⟨fil_mem [13, 930, 939, 943, 946, 948, 931, 932, 25, 26, 933, 938, 944, 964, 920, 965, 922, 966, 924, 934, 936, 926, 960, 961, 963, 926, 951, 952, 953, 954, 912, 954, 955, 956, 957, 914, 957, 958, 959, 960, 916, 950, 909, 910, 917, 918, 919, 921, 923, 925, 929, 928, 927] (by decide +kernel), by decide +kernel, by decide +kernel, (gd_t (mt4 188 rfl) rfl), (gd_t (mt1 18 rfl) rfl), by decide, by decide +kernel⟩
set_option maxRecDepth 100000 in
theorem xok_1 : XTK "OneEach$Move" 84 88 xnA := ⟨fil_mem [13, 930, 939, 943, 946, 948, 931, 932, 25, 26, 933, 938, 944, 964, 920, 965, 922, 966, 924, 934, 936, 926, 960, 961, 963, 926, 987, 988, 989, 954, 912, 954, 955, 956, 957, 914, 957, 958, 959, 960, 916, 986, 977, 978, 979, 941, 980, 981, 982, 983, 929, 928, 984] (by decide +kernel), by decide +kernel, by decide +kernel, (gd_t (mt5 16 rfl) rfl), (gd_t (mt1 16 rfl) rfl), by decide, by decide +kernel⟩
set_option maxRecDepth 100000 in
theorem xok_2 : XTK "OneEach$Move" 89 93 xnS := ⟨fil_mem [13, 930, 939, 943, 946, 948, 931, 932, 25, 26, 933, 938, 944, 964, 920, 965, 922, 966, 924, 934, 936, 926, 960, 961, 963, 926, 1003, 1004, 1005, 954, 912, 954, 955, 956, 957, 914, 957, 958, 959, 960, 916, 1002, 993, 994, 995, 942, 996, 997, 998, 999, 929, 928, 1000] (by decide +kernel), by decide +kernel, by decide +kernel, (gd_t (mt5 32 rfl) rfl), (gd_t (mt1 17 rfl) rfl), by decide, by decide +kernel⟩
set_option maxRecDepth 100000 in
theorem xok_3 : XTK "OneEach" 288 292 xnA := ⟨fil_mem [13, 930, 939, 943, 946, 948, 931, 932, 25, 26, 933, 938, 944, 964, 920, 965, 922, 966, 924, 934, 936, 926, 960, 961, 963, 926, 987, 988, 989, 954, 912, 954, 955, 956, 957, 914, 957, 958, 959, 960, 916, 1018, 977, 978, 979, 941, 980, 981, 982, 983, 929, 928, 984] (by decide +kernel), by decide +kernel, by decide +kernel, (gd_t (mt4 182 rfl) rfl), (gd_t (mt1 16 rfl) rfl), by decide, by decide +kernel⟩
set_option maxRecDepth 100000 in
theorem xok_4 : XTK "OneEach" 295 299 xnS := ⟨fil_mem [13, 930, 939, 943, 946, 948, 931, 932, 25, 26, 933, 938, 944, 964, 920, 965, 922, 966, 924, 934, 936, 926, 960, 961, 963, 926, 1003, 1004, 1005, 954, 912, 954, 955, 956, 957, 914, 957, 958, 959, 960, 916, 1020, 993, 994, 995, 942, 996, 997, 998, 999, 929, 928, 1000] (by decide +kernel), by decide +kernel, by decide +kernel, (gd_t (mt4 183 rfl) rfl), (gd_t (mt1 17 rfl) rfl), by decide, by decide +kernel⟩
theorem XTK.at {own cls : String} {ik ic : Nat} {A : Nat → Prop} {s : State} {args : Array Value} (h : XTK own ik ic cls) (hx : XE A s) (hts : ∀ w ∈ lw_good, w.before args s = true) : ∀ w ∈ vx_atS own ic cls nmsE, w.before args s = true := by
  refine vx_hat (B := Cond.castable cls cls :: dclE.map Cond.declares) (fun w hw => ?_) h.2.1 (fun w hw => ?_)
  · obtain ⟨h1, h2⟩ := List.mem_filter.mp hw
    exact hts w (gd_t (h.1 w h1) h2)
  · rcases List.mem_cons.mp hw with rfl | hw
    · exact va_Nw.use rfl (hx.2.2.2.1 cls h.2.2.2.2.2.1)
    · obtain ⟨x, h1, rfl⟩ := List.mem_map.mp hw
      exact va_Nw.use rfl (hx.2.2.1 x h1)
