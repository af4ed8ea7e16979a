/-! look: it may throw -/
abbrev iN : String := "java/lang/IndexOutOfBoundsException"
abbrev nN : String := "java/util/NoSuchElementException"
abbrev lnm : List String := ["java/lang/RuntimeException", "java/lang/Exception"]
/-- what a body of look owes: returned, or one of the two thrown -/
def BdX (l : Launch) (D : va_G) (tys : List (ClassId × FieldType)) (rm : Room) (ws : va_W) (as : List Value) (o : Int32 ⊕ Nat) : Prop :=
  ∀ (p : Program) (e : Env) (s : State) (m : MethodId) (below : List Frame) (meth : Method) (c : Code) (A : Nat → Prop) (Q : State → Prop), CallFix p m c cX6_look 3 s as.toArray wsX6_look RX6 → va_K D vwCl tys s → (∀ q, s.heap.size ≤ q → A q) →
    (∀ r : Int32, o = Sum.inl r → RtI p l e rm s m as.toArray below meth c cX6_look A Q D r ws) →
    (o = Sum.inr 1 → ∀ (pc : Nat) (ls : Array Slot) (rest : List Value) (H : Heap) (locs : List Loc), decode cX6_look pc = .ok (.new 203, 3) → decode cX6_look (pc + 3) = .ok (.dup, 1) → decode cX6_look (pc + 4) = .ok (.ldc 205, 2) → decode cX6_look (pc + 6) = .ok (.invokespecial 207, 3) → decode cX6_look (pc + 9) = .ok (.athrow, 1) → va_P D vwCl ws H → va_D A ws → va_S A s.heap H locs → ls.size = 3 → rest = [] → W p l e rm s m as.toArray below meth c H locs 0 0 Q (F0 m pc ls rest)) →
    (o = Sum.inr 2 → ∀ (pc : Nat) (ls : Array Slot) (rest : List Value) (H : Heap) (locs : List Loc), decode cX6_look pc = .ok (.new 228, 3) → decode cX6_look (pc + 3) = .ok (.dup, 1) → decode cX6_look (pc + 4) = .ok (.ldc 230, 2) → decode cX6_look (pc + 6) = .ok (.invokespecial 232, 3) → decode cX6_look (pc + 9) = .ok (.athrow, 1) → va_P D vwCl ws H → va_D A ws → va_S A s.heap H locs → ls.size = 3 → rest = [] → W p l e rm s m as.toArray below meth c H locs 0 0 Q (F0 m pc ls rest)) →
    ∀ (H : Heap) (locs : List Loc), va_P D vwCl ws H → va_D A ws → va_S A s.heap H locs → ∀ ls : Array Slot, lv_has ls 3 (lv_args 0 as) → W p l e rm s m as.toArray below meth c H locs 0 0 Q (F0 m 0 ls [])
/-! DryWells.look -/
noncomputable def shX6_look (a1 : Int32) (a2 : Int32) (w_book_numbers : Nat → Int32) (v_villages_size : Int32) (w_villages_rocks : Nat → Int32) (w_villages_people : Nat → Int32) (w_villages_badHoles : Nat → Int32) (w_villages_wellPipes : Nat → Int32) (w_villages_endAges : Nat → Int32) (w_villages_runAges : Nat → Int32) : Option (Int32 ⊕ Nat) :=
  ((shX4_has a1 v_villages_size).bind fun o_5 => (if ¬ o_5 = 0 then (if a2 = (0 : Int32) then ((shX4_rockOf a1 w_villages_rocks).bind fun o_69 => some (Sum.inl o_69)) else (if a2 = (1 : Int32) then ((shX4_peopleOf a1 w_villages_people).bind fun o_78 => some (Sum.inl o_78)) else (if a2 = (2 : Int32) then ((shX0_dry w_book_numbers).bind fun o_91 => ((shX4_state a1 o_91 w_villages_badHoles w_villages_wellPipes).bind fun o_94 => some (Sum.inl o_94))) else (if a2 = (3 : Int32) then ((shX4_badHoles a1 w_villages_badHoles).bind fun o_103 => some (Sum.inl o_103)) else (if a2 = (4 : Int32) then ((shX4_wellPipes a1 w_villages_wellPipes).bind fun o_112 => some (Sum.inl o_112)) else (if a2 = (5 : Int32) then ((shX4_endAge a1 w_villages_endAges).bind fun o_121 => some (Sum.inl o_121)) else (if a2 = (6 : Int32) then ((shX4_runAge a1 w_villages_runAges).bind fun o_130 => some (Sum.inl o_130)) else some (Sum.inr 2)))))))) else some (Sum.inr 1)))
def wdX6_look (cI cJ cZ : ClassId) (q_this q_tape q_book q_rocks q_villages q_ways q_planner q_book_numbers q_book_fresh q_book_told q_villages_rocks q_villages_people q_villages_badHoles q_villages_wellPipes q_villages_endAges q_villages_runAges : Nat) (v_rigPlace : Int32) (v_day : Int32) (v_book_faultKind : Int32) (v_book_faultPlace : Int32) (v_book_at : Int32) (v_book_end : Int32) (v_villages_size : Int32) (w_book_numbers : Nat → Int32) (w_villages_rocks : Nat → Int32) (w_villages_people : Nat → Int32) (w_villages_badHoles : Nat → Int32) (w_villages_wellPipes : Nat → Int32) (w_villages_endAges : Nat → Int32) (w_villages_runAges : Nat → Int32) : va_W := [(q_this, .inr (6, [.ref q_tape, .ref q_book, .ref q_rocks, .ref q_villages, .ref q_ways, .ref q_planner, .int v_rigPlace, .int v_day])), (q_book, .inr (0, [.ref q_book_numbers, .ref q_book_fresh, .ref q_book_told, .int v_book_faultKind, .int v_book_faultPlace, .int v_book_at, .int v_book_end])), (q_book_numbers, .inl (cI, 3, .inl w_book_numbers)), (q_villages, .inr (4, [.ref q_villages_rocks, .ref q_villages_people, .ref q_villages_badHoles, .ref q_villages_wellPipes, .ref q_villages_endAges, .ref q_villages_runAges, .int v_villages_size])), (q_villages_rocks, .inl (cI, 8, .inl w_villages_rocks)), (q_villages_people, .inl (cI, 8, .inl w_villages_people)), (q_villages_badHoles, .inl (cI, 8, .inl w_villages_badHoles)), (q_villages_wellPipes, .inl (cI, 8, .inl w_villages_wellPipes)), (q_villages_endAges, .inl (cI, 8, .inl w_villages_endAges)), (q_villages_runAges, .inl (cI, 8, .inl w_villages_runAges))]
abbrev rmX6_look : Room := { frames := 6, cells := 1, slots := 6, locals := 90 }
theorem inX6_look_X6 : ∀ w ∈ u_ws RX6 TX6 8, w ∈ wsX6_look := fun _ h => List.mem_cons_of_mem _ (List.mem_append_left _ (List.mem_append_left _ (List.mem_append_left _ (List.mem_append_left _ (List.mem_append_right _ h)))))
theorem inX6_look_X0 : ∀ w ∈ u_ws RX0 TX0 7, w ∈ wsX6_look := fun _ h => List.mem_cons_of_mem _ (List.mem_append_left _ (List.mem_append_left _ (List.mem_append_right _ h)))
theorem inX6_look_X4 : ∀ w ∈ u_ws RX4 TX4 7, w ∈ wsX6_look := fun _ h => List.mem_cons_of_mem _ (List.mem_append_left _ (List.mem_append_left _ (List.mem_append_left _ (List.mem_append_right _ h))))
theorem lkX6_look_33 : Cond.fieldLink RX6 33 (TX6 3).1 (TX6 3).2.1 (TX6 3).2.2.1 ∈ wsX6_look := List.mem_of_getElem? (i := 5) rfl
theorem lkX6_look_19 : Cond.fieldLink RX6 19 (TX6 1).1 (TX6 1).2.1 (TX6 1).2.2.1 ∈ wsX6_look := List.mem_of_getElem? (i := 6) rfl
theorem hdX6_look : yX6_look.cls = RX6 ∧ yX6_look.cls ≠ "java/lang/invoke/MethodHandle" ∧ yX6_look.cls ≠ "java/lang/invoke/VarHandle" ∧ (parseMethodDescriptor yX6_look.desc).map (fun d => d.parameters.length) = some 2 := by decide +kernel
set_option maxHeartbeats 4000000 in
set_option maxRecDepth 100000 in
theorem ctX6_look0 (l : Launch) (D : va_G) (cI cJ cZ : ClassId) (q_this q_tape q_book q_rocks q_villages q_ways q_planner q_book_numbers q_book_fresh q_book_told q_villages_rocks q_villages_people q_villages_badHoles q_villages_wellPipes q_villages_endAges q_villages_runAges : Nat) (v_rigPlace : Int32) (v_day : Int32) (v_book_faultKind : Int32) (v_book_faultPlace : Int32) (v_book_at : Int32) (v_book_end : Int32) (v_villages_size : Int32) (w_book_numbers : Nat → Int32) (w_villages_rocks : Nat → Int32) (w_villages_people : Nat → Int32) (w_villages_badHoles : Nat → Int32) (w_villages_wellPipes : Nat → Int32) (w_villages_endAges : Nat → Int32) (w_villages_runAges : Nat → Int32) (a1 : Int32) (a2 : Int32) (o : Int32 ⊕ Nat) (hsh : shX6_look a1 a2 w_book_numbers v_villages_size w_villages_rocks w_villages_people w_villages_badHoles w_villages_wellPipes w_villages_endAges w_villages_runAges = some o) : BdX l D (tys3 cI cJ cZ) rmX6_look (wdX6_look cI cJ cZ q_this q_tape q_book q_rocks q_villages q_ways q_planner q_book_numbers q_book_fresh q_book_told q_villages_rocks q_villages_people q_villages_badHoles q_villages_wellPipes q_villages_endAges q_villages_runAges v_rigPlace v_day v_book_faultKind v_book_faultPlace v_book_at v_book_end v_villages_size w_book_numbers w_villages_rocks w_villages_people w_villages_badHoles w_villages_wellPipes w_villages_endAges w_villages_runAges) [.ref q_this, .int a1, .int a2] o := by
  intro p e s m below meth c A Q S hK hA hret hth1 hth2 H locs hP hD hS ls hl
  generalize ([.ref q_this, .int a1, .int a2] : List Value).toArray = args at S hret hth1 hth2 ⊢
  obtain ⟨hx, hb, hml, hown, hts⟩ := id S
  replace hl : lv_has ls 3 [(0, .ref q_this), (1, .int a1), (2, .int a2)] := hl
  unfold shX6_look at hsh
  refine lv_aload_n hx hb dX6_look_0 rfl (lv_at hl 0 rfl) ?_
  refine kget (ci := 6) S hK hP rfl inX6_look_X6 0 rfl 3 (by decide) lkX6_look_33 rfl dX6_look_1 ?_
  refine lv_iload_n hx hb dX6_look_4 rfl (lv_at hl 1 rfl) ?_
  obtain ⟨o_5, he, hsh⟩ := bd hsh
  refine kVi (ci := 4) S hK hA (ctX4_has l D cI cJ cZ q_villages q_villages_rocks q_villages_people q_villages_badHoles q_villages_wellPipes q_villages_endAges q_villages_runAges v_villages_size a1 o_5 he) noE_cl (cwV 1 hts gX6_look_X4_has rfl rfl rfl hdX4_has ⟨Nat.le_of_ble_eq_true rfl, Nat.le_of_ble_eq_true rfl⟩) rfl 0 rfl [3] [0, 1, 2, 4, 5, 6, 7, 8, 9] [0, 1, 2, 9, 3, 4, 5, 6, 7, 8] (ws' := (wdX6_look cI cJ cZ q_this q_tape q_book q_rocks q_villages q_ways q_planner q_book_numbers q_book_fresh q_book_told q_villages_rocks q_villages_people q_villages_badHoles q_villages_wellPipes q_villages_endAges q_villages_runAges v_rigPlace v_day v_book_faultKind v_book_faultPlace v_book_at v_book_end v_villages_size w_book_numbers w_villages_rocks w_villages_people w_villages_badHoles w_villages_wellPipes w_villages_endAges w_villages_runAges)) ⟨rfl, rfl, rfl, rfl, rfl, rfl, rfl⟩ trivial rfl hl.1 rfl (Nat.le_of_ble_eq_true rfl) dX6_look_5 hP hD hS (fun H locs hP hD hS => ?_)
  refine lv_if_ne (tgt := 21) hx hb dX6_look_8 (by decide) (fun c1 => ?_) (fun c1 => ?_)
  · skip
    have hsh := ite_t hsh c1
    refine lv_iload_n hx hb dX6_look_21 rfl (lv_at hl 2 rfl) ?_
    by_cases c_0 : a2 = (0 : Int32)
    · have hsh := ite_t hsh c_0
      refine lv_tableIn (tgt := 64) hx hb dX6_look_22 (by rw [c_0]; decide) (by rw [c_0]; decide) (by rw [c_0]; rfl) (by decide) ?_
      refine lv_aload_n hx hb dX6_look_64 rfl (lv_at hl 0 rfl) ?_
      refine kget (ci := 6) S hK hP rfl inX6_look_X6 0 rfl 3 (by decide) lkX6_look_33 rfl dX6_look_65 ?_
      refine lv_iload_n hx hb dX6_look_68 rfl (lv_at hl 1 rfl) ?_
      obtain ⟨o_69, he, hsh⟩ := bd hsh
      refine kVi (ci := 4) S hK hA (ctX4_rockOf l D cI cJ cZ q_villages q_villages_rocks q_villages_people q_villages_badHoles q_villages_wellPipes q_villages_endAges q_villages_runAges v_villages_size w_villages_rocks a1 o_69 he) noE_cl (cwV 1 hts gX6_look_X4_rockOf rfl rfl rfl hdX4_rockOf ⟨Nat.le_of_ble_eq_true rfl, Nat.le_of_ble_eq_true rfl⟩) rfl 0 rfl [3, 4] [0, 1, 2, 5, 6, 7, 8, 9] [0, 1, 2, 8, 9, 3, 4, 5, 6, 7] (ws' := (wdX6_look cI cJ cZ q_this q_tape q_book q_rocks q_villages q_ways q_planner q_book_numbers q_book_fresh q_book_told q_villages_rocks q_villages_people q_villages_badHoles q_villages_wellPipes q_villages_endAges q_villages_runAges v_rigPlace v_day v_book_faultKind v_book_faultPlace v_book_at v_book_end v_villages_size w_book_numbers w_villages_rocks w_villages_people w_villages_badHoles w_villages_wellPipes w_villages_endAges w_villages_runAges)) ⟨rfl, rfl, rfl, rfl, rfl, rfl, rfl⟩ trivial rfl hl.1 rfl (Nat.le_of_ble_eq_true rfl) dX6_look_69 hP hD hS (fun H locs hP hD hS => ?_)
      have ho := Option.some.inj hsh
      exact hret _ ho.symm _ _ _ _ dX6_look_72 hP hD hS
    have hsh := ite_f hsh c_0
    by_cases c_1 : a2 = (1 : Int32)
    · have hsh := ite_t hsh c_1
      refine lv_tableIn (tgt := 73) hx hb dX6_look_22 (by rw [c_1]; decide) (by rw [c_1]; decide) (by rw [c_1]; rfl) (by decide) ?_
      refine lv_aload_n hx hb dX6_look_73 rfl (lv_at hl 0 rfl) ?_
      refine kget (ci := 6) S hK hP rfl inX6_look_X6 0 rfl 3 (by decide) lkX6_look_33 rfl dX6_look_74 ?_
      refine lv_iload_n hx hb dX6_look_77 rfl (lv_at hl 1 rfl) ?_
      obtain ⟨o_78, he, hsh⟩ := bd hsh
      refine kVi (ci := 4) S hK hA (ctX4_peopleOf l D cI cJ cZ q_villages q_villages_rocks q_villages_people q_villages_badHoles q_villages_wellPipes q_villages_endAges q_villages_runAges v_villages_size w_villages_people a1 o_78 he) noE_cl (cwV 1 hts gX6_look_X4_peopleOf rfl rfl rfl hdX4_peopleOf ⟨Nat.le_of_ble_eq_true rfl, Nat.le_of_ble_eq_true rfl⟩) rfl 0 rfl [3, 5] [0, 1, 2, 4, 6, 7, 8, 9] [0, 1, 2, 8, 3, 9, 4, 5, 6, 7] (ws' := (wdX6_look cI cJ cZ q_this q_tape q_book q_rocks q_villages q_ways q_planner q_book_numbers q_book_fresh q_book_told q_villages_rocks q_villages_people q_villages_badHoles q_villages_wellPipes q_villages_endAges q_villages_runAges v_rigPlace v_day v_book_faultKind v_book_faultPlace v_book_at v_book_end v_villages_size w_book_numbers w_villages_rocks w_villages_people w_villages_badHoles w_villages_wellPipes w_villages_endAges w_villages_runAges)) ⟨rfl, rfl, rfl, rfl, rfl, rfl, rfl⟩ trivial rfl hl.1 rfl (Nat.le_of_ble_eq_true rfl) dX6_look_78 hP hD hS (fun H locs hP hD hS => ?_)
      have ho := Option.some.inj hsh
      exact hret _ ho.symm _ _ _ _ dX6_look_81 hP hD hS
    have hsh := ite_f hsh c_1
    by_cases c_2 : a2 = (2 : Int32)
    · have hsh := ite_t hsh c_2
      refine lv_tableIn (tgt := 82) hx hb dX6_look_22 (by rw [c_2]; decide) (by rw [c_2]; decide) (by rw [c_2]; rfl) (by decide) ?_
      refine lv_aload_n hx hb dX6_look_82 rfl (lv_at hl 0 rfl) ?_
      refine kget (ci := 6) S hK hP rfl inX6_look_X6 0 rfl 3 (by decide) lkX6_look_33 rfl dX6_look_83 ?_
      refine lv_iload_n hx hb dX6_look_86 rfl (lv_at hl 1 rfl) ?_
      refine lv_aload_n hx hb dX6_look_87 rfl (lv_at hl 0 rfl) ?_
      refine kget (ci := 6) S hK hP rfl inX6_look_X6 0 rfl 1 (by decide) lkX6_look_19 rfl dX6_look_88 ?_
      obtain ⟨o_91, he, hsh⟩ := bd hsh
      refine kVi (ci := 0) S hK hA (ctX0_dry l D cI cJ cZ q_book q_book_numbers q_book_fresh q_book_told v_book_faultKind v_book_faultPlace v_book_at v_book_end w_book_numbers o_91 he) noE_cl (cwV 0 hts gX6_look_X0_dry rfl rfl rfl hdX0_dry ⟨Nat.le_of_ble_eq_true rfl, Nat.le_of_ble_eq_true rfl⟩) rfl 0 rfl [1, 2] [0, 3, 4, 5, 6, 7, 8, 9] [0, 8, 9, 1, 2, 3, 4, 5, 6, 7] (ws' := (wdX6_look cI cJ cZ q_this q_tape q_book q_rocks q_villages q_ways q_planner q_book_numbers q_book_fresh q_book_told q_villages_rocks q_villages_people q_villages_badHoles q_villages_wellPipes q_villages_endAges q_villages_runAges v_rigPlace v_day v_book_faultKind v_book_faultPlace v_book_at v_book_end v_villages_size w_book_numbers w_villages_rocks w_villages_people w_villages_badHoles w_villages_wellPipes w_villages_endAges w_villages_runAges)) ⟨rfl, rfl, rfl, rfl, rfl, rfl, rfl⟩ trivial rfl hl.1 rfl (Nat.le_of_ble_eq_true rfl) dX6_look_91 hP hD hS (fun H locs hP hD hS => ?_)
      obtain ⟨o_94, he, hsh⟩ := bd hsh
      refine kVi (ci := 4) S hK hA (ctX4_state l D cI cJ cZ q_villages q_villages_rocks q_villages_people q_villages_badHoles q_villages_wellPipes q_villages_endAges q_villages_runAges v_villages_size w_villages_badHoles w_villages_wellPipes a1 o_91 o_94 he) noE_cl (cwV 2 hts gX6_look_X4_state rfl rfl rfl hdX4_state ⟨Nat.le_of_ble_eq_true rfl, Nat.le_of_ble_eq_true rfl⟩) rfl 0 rfl [3, 6, 7] [0, 1, 2, 4, 5, 8, 9] [0, 1, 2, 7, 3, 4, 8, 9, 5, 6] (ws' := (wdX6_look cI cJ cZ q_this q_tape q_book q_rocks q_villages q_ways q_planner q_book_numbers q_book_fresh q_book_told q_villages_rocks q_villages_people q_villages_badHoles q_villages_wellPipes q_villages_endAges q_villages_runAges v_rigPlace v_day v_book_faultKind v_book_faultPlace v_book_at v_book_end v_villages_size w_book_numbers w_villages_rocks w_villages_people w_villages_badHoles w_villages_wellPipes w_villages_endAges w_villages_runAges)) ⟨rfl, rfl, rfl, rfl, rfl, rfl, rfl⟩ trivial rfl hl.1 rfl (Nat.le_of_ble_eq_true rfl) dX6_look_94 hP hD hS (fun H locs hP hD hS => ?_)
      have ho := Option.some.inj hsh
      exact hret _ ho.symm _ _ _ _ dX6_look_97 hP hD hS
    have hsh := ite_f hsh c_2
    by_cases c_3 : a2 = (3 : Int32)
    · have hsh := ite_t hsh c_3
      refine lv_tableIn (tgt := 98) hx hb dX6_look_22 (by rw [c_3]; decide) (by rw [c_3]; decide) (by rw [c_3]; rfl) (by decide) ?_
      refine lv_aload_n hx hb dX6_look_98 rfl (lv_at hl 0 rfl) ?_
      refine kget (ci := 6) S hK hP rfl inX6_look_X6 0 rfl 3 (by decide) lkX6_look_33 rfl dX6_look_99 ?_
      refine lv_iload_n hx hb dX6_look_102 rfl (lv_at hl 1 rfl) ?_
      obtain ⟨o_103, he, hsh⟩ := bd hsh
      refine kVi (ci := 4) S hK hA (ctX4_badHoles l D cI cJ cZ q_villages q_villages_rocks q_villages_people q_villages_badHoles q_villages_wellPipes q_villages_endAges q_villages_runAges v_villages_size w_villages_badHoles a1 o_103 he) noE_cl (cwV 1 hts gX6_look_X4_badHoles rfl rfl rfl hdX4_badHoles ⟨Nat.le_of_ble_eq_true rfl, Nat.le_of_ble_eq_true rfl⟩) rfl 0 rfl [3, 6] [0, 1, 2, 4, 5, 7, 8, 9] [0, 1, 2, 8, 3, 4, 9, 5, 6, 7] (ws' := (wdX6_look cI cJ cZ q_this q_tape q_book q_rocks q_villages q_ways q_planner q_book_numbers q_book_fresh q_book_told q_villages_rocks q_villages_people q_villages_badHoles q_villages_wellPipes q_villages_endAges q_villages_runAges v_rigPlace v_day v_book_faultKind v_book_faultPlace v_book_at v_book_end v_villages_size w_book_numbers w_villages_rocks w_villages_people w_villages_badHoles w_villages_wellPipes w_villages_endAges w_villages_runAges)) ⟨rfl, rfl, rfl, rfl, rfl, rfl, rfl⟩ trivial rfl hl.1 rfl (Nat.le_of_ble_eq_true rfl) dX6_look_103 hP hD hS (fun H locs hP hD hS => ?_)
      have ho := Option.some.inj hsh
      exact hret _ ho.symm _ _ _ _ dX6_look_106 hP hD hS
    have hsh := ite_f hsh c_3
    by_cases c_4 : a2 = (4 : Int32)
    · have hsh := ite_t hsh c_4
      refine lv_tableIn (tgt := 107) hx hb dX6_look_22 (by rw [c_4]; decide) (by rw [c_4]; decide) (by rw [c_4]; rfl) (by decide) ?_
      refine lv_aload_n hx hb dX6_look_107 rfl (lv_at hl 0 rfl) ?_
      refine kget (ci := 6) S hK hP rfl inX6_look_X6 0 rfl 3 (by decide) lkX6_look_33 rfl dX6_look_108 ?_
      refine lv_iload_n hx hb dX6_look_111 rfl (lv_at hl 1 rfl) ?_
      obtain ⟨o_112, he, hsh⟩ := bd hsh
      refine kVi (ci := 4) S hK hA (ctX4_wellPipes l D cI cJ cZ q_villages q_villages_rocks q_villages_people q_villages_badHoles q_villages_wellPipes q_villages_endAges q_villages_runAges v_villages_size w_villages_wellPipes a1 o_112 he) noE_cl (cwV 1 hts gX6_look_X4_wellPipes rfl rfl rfl hdX4_wellPipes ⟨Nat.le_of_ble_eq_true rfl, Nat.le_of_ble_eq_true rfl⟩) rfl 0 rfl [3, 7] [0, 1, 2, 4, 5, 6, 8, 9] [0, 1, 2, 8, 3, 4, 5, 9, 6, 7] (ws' := (wdX6_look cI cJ cZ q_this q_tape q_book q_rocks q_villages q_ways q_planner q_book_numbers q_book_fresh q_book_told q_villages_rocks q_villages_people q_villages_badHoles q_villages_wellPipes q_villages_endAges q_villages_runAges v_rigPlace v_day v_book_faultKind v_book_faultPlace v_book_at v_book_end v_villages_size w_book_numbers w_villages_rocks w_villages_people w_villages_badHoles w_villages_wellPipes w_villages_endAges w_villages_runAges)) ⟨rfl, rfl, rfl, rfl, rfl, rfl, rfl⟩ trivial rfl hl.1 rfl (Nat.le_of_ble_eq_true rfl) dX6_look_112 hP hD hS (fun H locs hP hD hS => ?_)
      have ho := Option.some.inj hsh
      exact hret _ ho.symm _ _ _ _ dX6_look_115 hP hD hS
    have hsh := ite_f hsh c_4
    by_cases c_5 : a2 = (5 : Int32)
    · have hsh := ite_t hsh c_5
      refine lv_tableIn (tgt := 116) hx hb dX6_look_22 (by rw [c_5]; decide) (by rw [c_5]; decide) (by rw [c_5]; rfl) (by decide) ?_
      refine lv_aload_n hx hb dX6_look_116 rfl (lv_at hl 0 rfl) ?_
      refine kget (ci := 6) S hK hP rfl inX6_look_X6 0 rfl 3 (by decide) lkX6_look_33 rfl dX6_look_117 ?_
      refine lv_iload_n hx hb dX6_look_120 rfl (lv_at hl 1 rfl) ?_
      obtain ⟨o_121, he, hsh⟩ := bd hsh
      refine kVi (ci := 4) S hK hA (ctX4_endAge l D cI cJ cZ q_villages q_villages_rocks q_villages_people q_villages_badHoles q_villages_wellPipes q_villages_endAges q_villages_runAges v_villages_size w_villages_endAges a1 o_121 he) noE_cl (cwV 1 hts gX6_look_X4_endAge rfl rfl rfl hdX4_endAge ⟨Nat.le_of_ble_eq_true rfl, Nat.le_of_ble_eq_true rfl⟩) rfl 0 rfl [3, 8] [0, 1, 2, 4, 5, 6, 7, 9] [0, 1, 2, 8, 3, 4, 5, 6, 9, 7] (ws' := (wdX6_look cI cJ cZ q_this q_tape q_book q_rocks q_villages q_ways q_planner q_book_numbers q_book_fresh q_book_told q_villages_rocks q_villages_people q_villages_badHoles q_villages_wellPipes q_villages_endAges q_villages_runAges v_rigPlace v_day v_book_faultKind v_book_faultPlace v_book_at v_book_end v_villages_size w_book_numbers w_villages_rocks w_villages_people w_villages_badHoles w_villages_wellPipes w_villages_endAges w_villages_runAges)) ⟨rfl, rfl, rfl, rfl, rfl, rfl, rfl⟩ trivial rfl hl.1 rfl (Nat.le_of_ble_eq_true rfl) dX6_look_121 hP hD hS (fun H locs hP hD hS => ?_)
      have ho := Option.some.inj hsh
      exact hret _ ho.symm _ _ _ _ dX6_look_124 hP hD hS
    have hsh := ite_f hsh c_5
    by_cases c_6 : a2 = (6 : Int32)
    · have hsh := ite_t hsh c_6
      refine lv_tableIn (tgt := 125) hx hb dX6_look_22 (by rw [c_6]; decide) (by rw [c_6]; decide) (by rw [c_6]; rfl) (by decide) ?_
      refine lv_aload_n hx hb dX6_look_125 rfl (lv_at hl 0 rfl) ?_
      refine kget (ci := 6) S hK hP rfl inX6_look_X6 0 rfl 3 (by decide) lkX6_look_33 rfl dX6_look_126 ?_
      refine lv_iload_n hx hb dX6_look_129 rfl (lv_at hl 1 rfl) ?_
      obtain ⟨o_130, he, hsh⟩ := bd hsh
      refine kVi (ci := 4) S hK hA (ctX4_runAge l D cI cJ cZ q_villages q_villages_rocks q_villages_people q_villages_badHoles q_villages_wellPipes q_villages_endAges q_villages_runAges v_villages_size w_villages_runAges a1 o_130 he) noE_cl (cwV 1 hts gX6_look_X4_runAge rfl rfl rfl hdX4_runAge ⟨Nat.le_of_ble_eq_true rfl, Nat.le_of_ble_eq_true rfl⟩) rfl 0 rfl [3, 9] [0, 1, 2, 4, 5, 6, 7, 8] [0, 1, 2, 8, 3, 4, 5, 6, 7, 9] (ws' := (wdX6_look cI cJ cZ q_this q_tape q_book q_rocks q_villages q_ways q_planner q_book_numbers q_book_fresh q_book_told q_villages_rocks q_villages_people q_villages_badHoles q_villages_wellPipes q_villages_endAges q_villages_runAges v_rigPlace v_day v_book_faultKind v_book_faultPlace v_book_at v_book_end v_villages_size w_book_numbers w_villages_rocks w_villages_people w_villages_badHoles w_villages_wellPipes w_villages_endAges w_villages_runAges)) ⟨rfl, rfl, rfl, rfl, rfl, rfl, rfl⟩ trivial rfl hl.1 rfl (Nat.le_of_ble_eq_true rfl) dX6_look_130 hP hD hS (fun H locs hP hD hS => ?_)
      have ho := Option.some.inj hsh
      exact hret _ ho.symm _ _ _ _ dX6_look_133 hP hD hS
    have hsh := ite_f hsh c_6
    refine lv_tableOut (tgt := 134) hx hb dX6_look_22 (ts_out (n := 6) (by decide) (fun k hk => by rcases (show k = 0 ∨ k = 1 ∨ k = 2 ∨ k = 3 ∨ k = 4 ∨ k = 5 ∨ k = 6 by omega) with rfl | rfl | rfl | rfl | rfl | rfl | rfl <;> assumption)) (by decide) ?_
    have ho := Option.some.inj hsh
    exact hth2 ho.symm _ _ _ _ _ dX6_look_134 dX6_look_137 dX6_look_138 dX6_look_140 dX6_look_143 hP hD hS hl.1 rfl
  · skip
    have hsh := ite_f hsh (fun h => h c1)
    have ho := Option.some.inj hsh
    exact hth1 ho.symm _ _ _ _ _ dX6_look_11 dX6_look_14 dX6_look_15 dX6_look_17 dX6_look_20 hP hD hS hl.1 rfl
