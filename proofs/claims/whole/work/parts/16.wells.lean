/-! DryWells.feed -/
noncomputable def shX6_feed (a1 : Int32) (a2 : Int32) (a3 : Int32) (a4 : Int32) (a5 : Int32) (v_tape_length : Int32) (w_tape_bytes : Nat → Int32) : Option (Int32 × Int32 × (Nat → Int32)) :=
  ((shX3_hasRoom v_tape_length).bind fun o_4 => (if ¬ o_4 = 0 then ((shX3_append a1 v_tape_length w_tape_bytes).bind fun o_17 => ((shX3_append a2 o_17.1 o_17.2).bind fun o_25 => ((shX3_append a3 o_25.1 o_25.2).bind fun o_33 => ((shX3_append a4 o_33.1 o_33.2).bind fun o_42 => ((shX3_append a5 o_42.1 o_42.2).bind fun o_51 => ((shX3_length o_51.1).bind fun o_58 => some (o_58, o_51.1, o_51.2))))))) else some ((-1 : Int32), v_tape_length, w_tape_bytes)))
def wdX6_feed (cI cJ cZ : ClassId) (q_this q_tape q_book q_rocks q_villages q_ways q_planner q_tape_bytes : Nat) (v_rigPlace : Int32) (v_day : Int32) (v_tape_length : Int32) (w_tape_bytes : Nat → Int32) : va_W := [(q_this, .inr (6, [.ref q_tape, .ref q_book, .ref q_rocks, .ref q_villages, .ref q_ways, .ref q_planner, .int v_rigPlace, .int v_day])), (q_tape, .inr (3, [.ref q_tape_bytes, .int v_tape_length])), (q_tape_bytes, .inl (cI, 200, .inl w_tape_bytes))]
abbrev rmX6_feed : Room := { frames := 1, cells := 0, slots := 0, locals := 22 }
theorem inX6_feed_X6 : ∀ w ∈ u_ws RX6 TX6 8, w ∈ wsX6_feed := fun _ h => List.mem_cons_of_mem _ (List.mem_append_left _ (List.mem_append_right _ h))
theorem inX6_feed_X3 : ∀ w ∈ u_ws RX3 TX3 2, w ∈ wsX6_feed := fun _ h => List.mem_cons_of_mem _ (List.mem_append_right _ h)
theorem lkX6_feed_10 : Cond.fieldLink RX6 10 (TX6 0).1 (TX6 0).2.1 (TX6 0).2.2.1 ∈ wsX6_feed := List.mem_of_getElem? (i := 1) rfl
theorem hdX6_feed : yX6_feed.cls = RX6 ∧ yX6_feed.cls ≠ "java/lang/invoke/MethodHandle" ∧ yX6_feed.cls ≠ "java/lang/invoke/VarHandle" ∧ (parseMethodDescriptor yX6_feed.desc).map (fun d => d.parameters.length) = some 5 := by decide +kernel
set_option maxHeartbeats 4000000 in
set_option maxRecDepth 100000 in
theorem ctX6_feed (l : Launch) (D : va_G) (cI cJ cZ : ClassId) (q_this q_tape q_book q_rocks q_villages q_ways q_planner q_tape_bytes : Nat) (v_rigPlace : Int32) (v_day : Int32) (v_tape_length : Int32) (w_tape_bytes : Nat → Int32) (a1 : Int32) (a2 : Int32) (a3 : Int32) (a4 : Int32) (a5 : Int32) (o : Int32 × Int32 × (Nat → Int32)) (hsh : shX6_feed a1 a2 a3 a4 a5 v_tape_length w_tape_bytes = some o) : CtI l yX6_feed wsX6_feed rmX6_feed D (tys3 cI cJ cZ) noE (wdX6_feed cI cJ cZ q_this q_tape q_book q_rocks q_villages q_ways q_planner q_tape_bytes v_rigPlace v_day v_tape_length w_tape_bytes) [.ref q_this, .int a1, .int a2, .int a3, .int a4, .int a5] o.1 (wdX6_feed cI cJ cZ q_this q_tape q_book q_rocks q_villages q_ways q_planner q_tape_bytes v_rigPlace v_day o.2.1 o.2.2) := by
  refine ctI plX6 rfl (Nat.le_of_ble_eq_true rfl) ?_
  intro p e s m below meth c A Q S hK hA hE hret H locs hP hD hS ls hl
  replace S : CallFix p m c cX6_feed 6 s _ wsX6_feed RX6 := S
  generalize ([.ref q_this, .int a1, .int a2, .int a3, .int a4, .int a5] : List Value).toArray = args at S hret ⊢
  obtain ⟨hx, hb, hml, hown, hts⟩ := id S
  replace hl : lv_has ls 6 [(0, .ref q_this), (1, .int a1), (2, .int a2), (3, .int a3), (4, .int a4), (5, .int a5)] := hl
  unfold shX6_feed at hsh
  refine lv_aload_n hx hb dX6_feed_0 rfl (lv_at hl 0 rfl) ?_
  refine kget (ci := 6) S hK hP rfl inX6_feed_X6 0 rfl 0 (by decide) lkX6_feed_10 rfl dX6_feed_1 ?_
  obtain ⟨o_4, he, hsh⟩ := bd hsh
  refine kVi (ci := 3) S hK hA (ctX3_hasRoom l D cI cJ cZ q_tape q_tape_bytes v_tape_length o_4 he) noE_cl (cwV 0 hts gX6_feed_X3_hasRoom rfl rfl rfl hdX3_hasRoom ⟨Nat.le_of_ble_eq_true rfl, Nat.le_of_ble_eq_true rfl⟩) rfl 0 rfl [1] [0, 2] [0, 2, 1] (ws' := (wdX6_feed cI cJ cZ q_this q_tape q_book q_rocks q_villages q_ways q_planner q_tape_bytes v_rigPlace v_day v_tape_length w_tape_bytes)) ⟨rfl, rfl, rfl, rfl, rfl, rfl, rfl⟩ trivial rfl hl.1 rfl (Nat.le_of_ble_eq_true rfl) dX6_feed_4 hP hD hS (fun H locs hP hD hS => ?_)
  refine lv_if_ne (tgt := 12) hx hb dX6_feed_7 (by decide) (fun c1 => ?_) (fun c1 => ?_)
  · skip
    have hsh := ite_t hsh c1
    refine lv_aload_n hx hb dX6_feed_12 rfl (lv_at hl 0 rfl) ?_
    refine kget (ci := 6) S hK hP rfl inX6_feed_X6 0 rfl 0 (by decide) lkX6_feed_10 rfl dX6_feed_13 ?_
    refine lv_iload_n hx hb dX6_feed_16 rfl (lv_at hl 1 rfl) ?_
    obtain ⟨o_17, he, hsh⟩ := bd hsh
    refine kVv (ci := 3) S hK hA (ctX3_append l D cI cJ cZ q_tape q_tape_bytes v_tape_length w_tape_bytes a1 o_17 he) noE_cl (cwV 1 hts gX6_feed_X3_append rfl rfl rfl hdX3_append ⟨Nat.le_of_ble_eq_true rfl, Nat.le_of_ble_eq_true rfl⟩) rfl 0 rfl [1, 2] [0] [0, 1, 2] (ws' := (wdX6_feed cI cJ cZ q_this q_tape q_book q_rocks q_villages q_ways q_planner q_tape_bytes v_rigPlace v_day o_17.1 o_17.2)) ⟨rfl, rfl, rfl, rfl, rfl, rfl, rfl⟩ trivial rfl hl.1 rfl (Nat.le_of_ble_eq_true rfl) dX6_feed_17 hP hD hS (fun H locs hP hD hS => ?_)
    refine lv_aload_n hx hb dX6_feed_20 rfl (lv_at hl 0 rfl) ?_
    refine kget (ci := 6) S hK hP rfl inX6_feed_X6 0 rfl 0 (by decide) lkX6_feed_10 rfl dX6_feed_21 ?_
    refine lv_iload_n hx hb dX6_feed_24 rfl (lv_at hl 2 rfl) ?_
    obtain ⟨o_25, he, hsh⟩ := bd hsh
    refine kVv (ci := 3) S hK hA (ctX3_append l D cI cJ cZ q_tape q_tape_bytes o_17.1 o_17.2 a2 o_25 he) noE_cl (cwV 1 hts gX6_feed_X3_append rfl rfl rfl hdX3_append ⟨Nat.le_of_ble_eq_true rfl, Nat.le_of_ble_eq_true rfl⟩) rfl 0 rfl [1, 2] [0] [0, 1, 2] (ws' := (wdX6_feed cI cJ cZ q_this q_tape q_book q_rocks q_villages q_ways q_planner q_tape_bytes v_rigPlace v_day o_25.1 o_25.2)) ⟨rfl, rfl, rfl, rfl, rfl, rfl, rfl⟩ trivial rfl hl.1 rfl (Nat.le_of_ble_eq_true rfl) dX6_feed_25 hP hD hS (fun H locs hP hD hS => ?_)
    refine lv_aload_n hx hb dX6_feed_28 rfl (lv_at hl 0 rfl) ?_
    refine kget (ci := 6) S hK hP rfl inX6_feed_X6 0 rfl 0 (by decide) lkX6_feed_10 rfl dX6_feed_29 ?_
    refine lv_iload_n hx hb dX6_feed_32 rfl (lv_at hl 3 rfl) ?_
    obtain ⟨o_33, he, hsh⟩ := bd hsh
    refine kVv (ci := 3) S hK hA (ctX3_append l D cI cJ cZ q_tape q_tape_bytes o_25.1 o_25.2 a3 o_33 he) noE_cl (cwV 1 hts gX6_feed_X3_append rfl rfl rfl hdX3_append ⟨Nat.le_of_ble_eq_true rfl, Nat.le_of_ble_eq_true rfl⟩) rfl 0 rfl [1, 2] [0] [0, 1, 2] (ws' := (wdX6_feed cI cJ cZ q_this q_tape q_book q_rocks q_villages q_ways q_planner q_tape_bytes v_rigPlace v_day o_33.1 o_33.2)) ⟨rfl, rfl, rfl, rfl, rfl, rfl, rfl⟩ trivial rfl hl.1 rfl (Nat.le_of_ble_eq_true rfl) dX6_feed_33 hP hD hS (fun H locs hP hD hS => ?_)
    refine lv_aload_n hx hb dX6_feed_36 rfl (lv_at hl 0 rfl) ?_
    refine kget (ci := 6) S hK hP rfl inX6_feed_X6 0 rfl 0 (by decide) lkX6_feed_10 rfl dX6_feed_37 ?_
    refine lv_iload hx hb dX6_feed_40 (lv_at hl 4 rfl) ?_
    obtain ⟨o_42, he, hsh⟩ := bd hsh
    refine kVv (ci := 3) S hK hA (ctX3_append l D cI cJ cZ q_tape q_tape_bytes o_33.1 o_33.2 a4 o_42 he) noE_cl (cwV 1 hts gX6_feed_X3_append rfl rfl rfl hdX3_append ⟨Nat.le_of_ble_eq_true rfl, Nat.le_of_ble_eq_true rfl⟩) rfl 0 rfl [1, 2] [0] [0, 1, 2] (ws' := (wdX6_feed cI cJ cZ q_this q_tape q_book q_rocks q_villages q_ways q_planner q_tape_bytes v_rigPlace v_day o_42.1 o_42.2)) ⟨rfl, rfl, rfl, rfl, rfl, rfl, rfl⟩ trivial rfl hl.1 rfl (Nat.le_of_ble_eq_true rfl) dX6_feed_42 hP hD hS (fun H locs hP hD hS => ?_)
    refine lv_aload_n hx hb dX6_feed_45 rfl (lv_at hl 0 rfl) ?_
    refine kget (ci := 6) S hK hP rfl inX6_feed_X6 0 rfl 0 (by decide) lkX6_feed_10 rfl dX6_feed_46 ?_
    refine lv_iload hx hb dX6_feed_49 (lv_at hl 5 rfl) ?_
    obtain ⟨o_51, he, hsh⟩ := bd hsh
    refine kVv (ci := 3) S hK hA (ctX3_append l D cI cJ cZ q_tape q_tape_bytes o_42.1 o_42.2 a5 o_51 he) noE_cl (cwV 1 hts gX6_feed_X3_append rfl rfl rfl hdX3_append ⟨Nat.le_of_ble_eq_true rfl, Nat.le_of_ble_eq_true rfl⟩) rfl 0 rfl [1, 2] [0] [0, 1, 2] (ws' := (wdX6_feed cI cJ cZ q_this q_tape q_book q_rocks q_villages q_ways q_planner q_tape_bytes v_rigPlace v_day o_51.1 o_51.2)) ⟨rfl, rfl, rfl, rfl, rfl, rfl, rfl⟩ trivial rfl hl.1 rfl (Nat.le_of_ble_eq_true rfl) dX6_feed_51 hP hD hS (fun H locs hP hD hS => ?_)
    refine lv_aload_n hx hb dX6_feed_54 rfl (lv_at hl 0 rfl) ?_
    refine kget (ci := 6) S hK hP rfl inX6_feed_X6 0 rfl 0 (by decide) lkX6_feed_10 rfl dX6_feed_55 ?_
    obtain ⟨o_58, he, hsh⟩ := bd hsh
    refine kVi (ci := 3) S hK hA (ctX3_length l D cI cJ cZ q_tape q_tape_bytes o_51.1 o_58 he) noE_cl (cwV 0 hts gX6_feed_X3_length rfl rfl rfl hdX3_length ⟨Nat.le_of_ble_eq_true rfl, Nat.le_of_ble_eq_true rfl⟩) rfl 0 rfl [1] [0, 2] [0, 2, 1] (ws' := (wdX6_feed cI cJ cZ q_this q_tape q_book q_rocks q_villages q_ways q_planner q_tape_bytes v_rigPlace v_day o_51.1 o_51.2)) ⟨rfl, rfl, rfl, rfl, rfl, rfl, rfl⟩ trivial rfl hl.1 rfl (Nat.le_of_ble_eq_true rfl) dX6_feed_58 hP hD hS (fun H locs hP hD hS => ?_)
    have ho := Option.some.inj hsh
    rw [← ho] at hret
    exact hret _ _ _ _ dX6_feed_61 hP hD hS
  · skip
    have hsh := ite_f hsh (fun h => h c1)
    refine lv_iconst (v := (-1 : Int32)) hx hb dX6_feed_10 (by decide) ?_
    have ho := Option.some.inj hsh
    rw [← ho] at hret
    exact hret _ _ _ _ dX6_feed_11 hP hD hS

/-! DryWells.rules -/
noncomputable def shX6_rules (a1 : Int32) (v_tape_length : Int32) (w_tape_bytes : Nat → Int32) (v_book_faultKind : Int32) (v_book_faultPlace : Int32) (v_book_at : Int32) (v_book_end : Int32) (w_book_numbers : Nat → Int32) (w_book_fresh : Nat → Int32) (w_book_told : Nat → Int32) : Option (Int32 × Int32 × Int32 × Int32 × Int32 × Int32 × (Nat → Int32) × (Nat → Int32) × (Nat → Int32)) :=
  (if a1 < 0 then some ((-2 : Int32), v_tape_length, v_book_faultKind, v_book_faultPlace, v_book_at, v_book_end, w_book_numbers, w_book_fresh, w_book_told) else ((shX3_length v_tape_length).bind fun o_9 => (if a1 ≤ o_9 then ((shX0_read a1 v_book_faultKind v_book_faultPlace v_book_at v_book_end w_book_numbers w_book_fresh w_book_told v_tape_length w_tape_bytes).bind fun o_27 => ((shX3_clear v_tape_length).bind fun o_35 => some (o_27.1, o_35, o_27.2.1, o_27.2.2.1, o_27.2.2.2.1, o_27.2.2.2.2.1, o_27.2.2.2.2.2.1, o_27.2.2.2.2.2.2.1, o_27.2.2.2.2.2.2.2))) else some ((-2 : Int32), v_tape_length, v_book_faultKind, v_book_faultPlace, v_book_at, v_book_end, w_book_numbers, w_book_fresh, w_book_told))))
def wdX6_rules (cI cJ cZ : ClassId) (q_this q_tape q_book q_rocks q_villages q_ways q_planner q_tape_bytes q_book_numbers q_book_fresh q_book_told : Nat) (v_rigPlace : Int32) (v_day : Int32) (v_tape_length : Int32) (v_book_faultKind : Int32) (v_book_faultPlace : Int32) (v_book_at : Int32) (v_book_end : Int32) (w_tape_bytes : Nat → Int32) (w_book_numbers : Nat → Int32) (w_book_fresh : Nat → Int32) (w_book_told : Nat → Int32) : va_W := [(q_this, .inr (6, [.ref q_tape, .ref q_book, .ref q_rocks, .ref q_villages, .ref q_ways, .ref q_planner, .int v_rigPlace, .int v_day])), (q_tape, .inr (3, [.ref q_tape_bytes, .int v_tape_length])), (q_tape_bytes, .inl (cI, 200, .inl w_tape_bytes)), (q_book, .inr (0, [.ref q_book_numbers, .ref q_book_fresh, .ref q_book_told, .int v_book_faultKind, .int v_book_faultPlace, .int v_book_at, .int v_book_end])), (q_book_numbers, .inl (cI, 3, .inl w_book_numbers)), (q_book_fresh, .inl (cI, 3, .inl w_book_fresh)), (q_book_told, .inl (cZ, 3, .inl w_book_told))]
abbrev rmX6_rules : Room := { frames := 8, cells := 0, slots := 0, locals := 178 }
theorem inX6_rules_X6 : ∀ w ∈ u_ws RX6 TX6 8, w ∈ wsX6_rules := fun _ h => List.mem_cons_of_mem _ (List.mem_append_left _ (List.mem_append_left _ (List.mem_append_right _ h)))
theorem inX6_rules_X3 : ∀ w ∈ u_ws RX3 TX3 2, w ∈ wsX6_rules := fun _ h => List.mem_cons_of_mem _ (List.mem_append_left _ (List.mem_append_right _ h))
theorem inX6_rules_X0 : ∀ w ∈ u_ws RX0 TX0 7, w ∈ wsX6_rules := fun _ h => List.mem_cons_of_mem _ (List.mem_append_right _ h)
theorem lkX6_rules_10 : Cond.fieldLink RX6 10 (TX6 0).1 (TX6 0).2.1 (TX6 0).2.2.1 ∈ wsX6_rules := List.mem_of_getElem? (i := 1) rfl
theorem lkX6_rules_19 : Cond.fieldLink RX6 19 (TX6 1).1 (TX6 1).2.1 (TX6 1).2.2.1 ∈ wsX6_rules := List.mem_of_getElem? (i := 2) rfl
theorem hdX6_rules : yX6_rules.cls = RX6 ∧ yX6_rules.cls ≠ "java/lang/invoke/MethodHandle" ∧ yX6_rules.cls ≠ "java/lang/invoke/VarHandle" ∧ (parseMethodDescriptor yX6_rules.desc).map (fun d => d.parameters.length) = some 1 := by decide +kernel
set_option maxHeartbeats 4000000 in
set_option maxRecDepth 100000 in
theorem ctX6_rules (l : Launch) (D : va_G) (cI cJ cZ : ClassId) (tL tM tU : Nat) (adK adV : Nat → Nat) (q_this q_tape q_book q_rocks q_villages q_ways q_planner q_tape_bytes q_book_numbers q_book_fresh q_book_told : Nat) (v_rigPlace : Int32) (v_day : Int32) (v_tape_length : Int32) (v_book_faultKind : Int32) (v_book_faultPlace : Int32) (v_book_at : Int32) (v_book_end : Int32) (w_tape_bytes : Nat → Int32) (w_book_numbers : Nat → Int32) (w_book_fresh : Nat → Int32) (w_book_told : Nat → Int32) (a1 : Int32) (o : Int32 × Int32 × Int32 × Int32 × Int32 × Int32 × (Nat → Int32) × (Nat → Int32) × (Nat → Int32)) (hsh : shX6_rules a1 v_tape_length w_tape_bytes v_book_faultKind v_book_faultPlace v_book_at v_book_end w_book_numbers w_book_fresh w_book_told = some o) : CtI l yX6_rules wsX6_rules rmX6_rules D (tys3 cI cJ cZ) (En tL tM tU adK adV) (wdX6_rules cI cJ cZ q_this q_tape q_book q_rocks q_villages q_ways q_planner q_tape_bytes q_book_numbers q_book_fresh q_book_told v_rigPlace v_day v_tape_length v_book_faultKind v_book_faultPlace v_book_at v_book_end w_tape_bytes w_book_numbers w_book_fresh w_book_told) [.ref q_this, .int a1] o.1 (wdX6_rules cI cJ cZ q_this q_tape q_book q_rocks q_villages q_ways q_planner q_tape_bytes q_book_numbers q_book_fresh q_book_told v_rigPlace v_day o.2.1 o.2.2.1 o.2.2.2.1 o.2.2.2.2.1 o.2.2.2.2.2.1 w_tape_bytes o.2.2.2.2.2.2.1 o.2.2.2.2.2.2.2.1 o.2.2.2.2.2.2.2.2) := by
  refine ctI plX6 rfl (Nat.le_of_ble_eq_true rfl) ?_
  intro p e s m below meth c A Q S hK hA hE hret H locs hP hD hS ls hl
  replace S : CallFix p m c cX6_rules 3 s _ wsX6_rules RX6 := S
  generalize ([.ref q_this, .int a1] : List Value).toArray = args at S hret ⊢
  obtain ⟨hx, hb, hml, hown, hts⟩ := id S
  replace hl : lv_has ls 3 [(0, .ref q_this), (1, .int a1)] := hl
  unfold shX6_rules at hsh
  refine lv_iload_n hx hb dX6_rules_0 rfl (lv_at hl 1 rfl) ?_
  refine lv_if_lt (tgt := 15) hx hb dX6_rules_1 (by decide) (fun c1 => ?_) (fun c1 => ?_)
  · skip
    have hsh := ite_t hsh c1
    refine lv_bipush (v := (-2 : Int32)) hx hb dX6_rules_15 (by decide) ?_
    have ho := Option.some.inj hsh
    rw [← ho] at hret
    exact hret _ _ _ _ dX6_rules_17 hP hD hS
  · skip
    have hsh := ite_f hsh c1
    refine lv_iload_n hx hb dX6_rules_4 rfl (lv_at hl 1 rfl) ?_
    refine lv_aload_n hx hb dX6_rules_5 rfl (lv_at hl 0 rfl) ?_
    refine kget (ci := 6) S hK hP rfl inX6_rules_X6 0 rfl 0 (by decide) lkX6_rules_10 rfl dX6_rules_6 ?_
    obtain ⟨o_9, he, hsh⟩ := bd hsh
    refine kVi (ci := 3) S hK hA (ctX3_length l D cI cJ cZ q_tape q_tape_bytes v_tape_length o_9 he) noE_cl (cwV 0 hts gX6_rules_X3_length rfl rfl rfl hdX3_length ⟨Nat.le_of_ble_eq_true rfl, Nat.le_of_ble_eq_true rfl⟩) rfl 0 rfl [1] [0, 2, 3, 4, 5, 6] [0, 6, 1, 2, 3, 4, 5] (ws' := (wdX6_rules cI cJ cZ q_this q_tape q_book q_rocks q_villages q_ways q_planner q_tape_bytes q_book_numbers q_book_fresh q_book_told v_rigPlace v_day v_tape_length v_book_faultKind v_book_faultPlace v_book_at v_book_end w_tape_bytes w_book_numbers w_book_fresh w_book_told)) ⟨rfl, rfl, rfl, rfl, rfl, rfl, rfl⟩ trivial rfl hl.1 rfl (Nat.le_of_ble_eq_true rfl) dX6_rules_9 hP hD hS (fun H locs hP hD hS => ?_)
    refine lv_icmp_le (tgt := 18) hx hb dX6_rules_12 (by decide) (fun c1 => ?_) (fun c1 => ?_)
    · skip
      have hsh := ite_t hsh c1
      refine lv_aload_n hx hb dX6_rules_18 rfl (lv_at hl 0 rfl) ?_
      refine kget (ci := 6) S hK hP rfl inX6_rules_X6 0 rfl 1 (by decide) lkX6_rules_19 rfl dX6_rules_19 ?_
      refine lv_aload_n hx hb dX6_rules_22 rfl (lv_at hl 0 rfl) ?_
      refine kget (ci := 6) S hK hP rfl inX6_rules_X6 0 rfl 0 (by decide) lkX6_rules_10 rfl dX6_rules_23 ?_
      refine lv_iload_n hx hb dX6_rules_26 rfl (lv_at hl 1 rfl) ?_
      obtain ⟨o_27, he, hsh⟩ := bd hsh
      refine kVi (ci := 0) S hK hA (ctX0_read l D cI cJ cZ tL tM tU adK adV q_book q_tape q_book_numbers q_book_fresh q_book_told q_tape_bytes v_book_faultKind v_book_faultPlace v_book_at v_book_end v_tape_length w_book_numbers w_book_fresh w_book_told w_tape_bytes a1 o_27 he) En_cl (cwV 2 hts gX6_rules_X0_read rfl rfl rfl hdX0_read ⟨Nat.le_of_ble_eq_true rfl, Nat.le_of_ble_eq_true rfl⟩) rfl 0 rfl [3, 4, 5, 6, 1, 2] [0] [0, 5, 6, 1, 2, 3, 4] (ws' := (wdX6_rules cI cJ cZ q_this q_tape q_book q_rocks q_villages q_ways q_planner q_tape_bytes q_book_numbers q_book_fresh q_book_told v_rigPlace v_day v_tape_length o_27.2.1 o_27.2.2.1 o_27.2.2.2.1 o_27.2.2.2.2.1 w_tape_bytes o_27.2.2.2.2.2.1 o_27.2.2.2.2.2.2.1 o_27.2.2.2.2.2.2.2)) ⟨rfl, rfl, rfl, rfl, rfl, rfl, rfl⟩ hE rfl hl.1 rfl (Nat.le_of_ble_eq_true rfl) dX6_rules_27 hP hD hS (fun H locs hP hD hS => ?_)
      refine lv_istore_n (lv' := [(2, .int o_27.1), (0, .ref q_this), (1, .int a1)]) hx hb dX6_rules_30 rfl hl (by decide) rfl (fun ls hl => ?_)
      refine lv_aload_n hx hb dX6_rules_31 rfl (lv_at hl 1 rfl) ?_
      refine kget (ci := 6) S hK hP rfl inX6_rules_X6 0 rfl 0 (by decide) lkX6_rules_10 rfl dX6_rules_32 ?_
      obtain ⟨o_35, he, hsh⟩ := bd hsh
      refine kVv (ci := 3) S hK hA (ctX3_clear l D cI cJ cZ q_tape q_tape_bytes v_tape_length o_35 he) noE_cl (cwV 0 hts gX6_rules_X3_clear rfl rfl rfl hdX3_clear ⟨Nat.le_of_ble_eq_true rfl, Nat.le_of_ble_eq_true rfl⟩) rfl 0 rfl [1] [0, 2, 3, 4, 5, 6] [0, 6, 1, 2, 3, 4, 5] (ws' := (wdX6_rules cI cJ cZ q_this q_tape q_book q_rocks q_villages q_ways q_planner q_tape_bytes q_book_numbers q_book_fresh q_book_told v_rigPlace v_day o_35 o_27.2.1 o_27.2.2.1 o_27.2.2.2.1 o_27.2.2.2.2.1 w_tape_bytes o_27.2.2.2.2.2.1 o_27.2.2.2.2.2.2.1 o_27.2.2.2.2.2.2.2)) ⟨rfl, rfl, rfl, rfl, rfl, rfl, rfl⟩ trivial rfl hl.1 rfl (Nat.le_of_ble_eq_true rfl) dX6_rules_35 hP hD hS (fun H locs hP hD hS => ?_)
      refine lv_iload_n hx hb dX6_rules_38 rfl (lv_at hl 0 rfl) ?_
      have ho := Option.some.inj hsh
      rw [← ho] at hret
      exact hret _ _ _ _ dX6_rules_39 hP hD hS
    · skip
      have hsh := ite_f hsh c1
      refine lv_bipush (v := (-2 : Int32)) hx hb dX6_rules_15 (by decide) ?_
      have ho := Option.some.inj hsh
      rw [← ho] at hret
      exact hret _ _ _ _ dX6_rules_17 hP hD hS

/-! DryWells.fault -/
noncomputable def shX6_fault (a1 : Int32) (v_book_faultKind : Int32) (v_book_faultPlace : Int32) : Option (Int32) :=
  (if ¬ a1 = 0 then (if ¬ a1 = (1 : Int32) then some (-1 : Int32) else ((shX0_faultPlace v_book_faultPlace).bind fun o_21 => some o_21)) else ((shX0_faultKind v_book_faultKind).bind fun o_8 => some o_8))
def wdX6_fault (cI cJ cZ : ClassId) (q_this q_tape q_book q_rocks q_villages q_ways q_planner q_book_numbers q_book_fresh q_book_told : Nat) (v_rigPlace : Int32) (v_day : Int32) (v_book_faultKind : Int32) (v_book_faultPlace : Int32) (v_book_at : Int32) (v_book_end : Int32) : va_W := [(q_this, .inr (6, [.ref q_tape, .ref q_book, .ref q_rocks, .ref q_villages, .ref q_ways, .ref q_planner, .int v_rigPlace, .int v_day])), (q_book, .inr (0, [.ref q_book_numbers, .ref q_book_fresh, .ref q_book_told, .int v_book_faultKind, .int v_book_faultPlace, .int v_book_at, .int v_book_end]))]
abbrev rmX6_fault : Room := { frames := 1, cells := 0, slots := 0, locals := 20 }
theorem inX6_fault_X6 : ∀ w ∈ u_ws RX6 TX6 8, w ∈ wsX6_fault := fun _ h => List.mem_cons_of_mem _ (List.mem_append_left _ (List.mem_append_right _ h))
theorem inX6_fault_X0 : ∀ w ∈ u_ws RX0 TX0 7, w ∈ wsX6_fault := fun _ h => List.mem_cons_of_mem _ (List.mem_append_right _ h)
theorem lkX6_fault_19 : Cond.fieldLink RX6 19 (TX6 1).1 (TX6 1).2.1 (TX6 1).2.2.1 ∈ wsX6_fault := List.mem_of_getElem? (i := 1) rfl
theorem hdX6_fault : yX6_fault.cls = RX6 ∧ yX6_fault.cls ≠ "java/lang/invoke/MethodHandle" ∧ yX6_fault.cls ≠ "java/lang/invoke/VarHandle" ∧ (parseMethodDescriptor yX6_fault.desc).map (fun d => d.parameters.length) = some 1 := by decide +kernel
set_option maxHeartbeats 4000000 in
set_option maxRecDepth 100000 in
theorem ctX6_fault (l : Launch) (D : va_G) (cI cJ cZ : ClassId) (q_this q_tape q_book q_rocks q_villages q_ways q_planner q_book_numbers q_book_fresh q_book_told : Nat) (v_rigPlace : Int32) (v_day : Int32) (v_book_faultKind : Int32) (v_book_faultPlace : Int32) (v_book_at : Int32) (v_book_end : Int32) (a1 : Int32) (o : Int32) (hsh : shX6_fault a1 v_book_faultKind v_book_faultPlace = some o) : CtI l yX6_fault wsX6_fault rmX6_fault D (tys3 cI cJ cZ) noE (wdX6_fault cI cJ cZ q_this q_tape q_book q_rocks q_villages q_ways q_planner q_book_numbers q_book_fresh q_book_told v_rigPlace v_day v_book_faultKind v_book_faultPlace v_book_at v_book_end) [.ref q_this, .int a1] o (wdX6_fault cI cJ cZ q_this q_tape q_book q_rocks q_villages q_ways q_planner q_book_numbers q_book_fresh q_book_told v_rigPlace v_day v_book_faultKind v_book_faultPlace v_book_at v_book_end) := by
  refine ctI plX6 rfl (Nat.le_of_ble_eq_true rfl) ?_
  intro p e s m below meth c A Q S hK hA hE hret H locs hP hD hS ls hl
  replace S : CallFix p m c cX6_fault 2 s _ wsX6_fault RX6 := S
  generalize ([.ref q_this, .int a1] : List Value).toArray = args at S hret ⊢
  obtain ⟨hx, hb, hml, hown, hts⟩ := id S
  replace hl : lv_has ls 2 [(0, .ref q_this), (1, .int a1)] := hl
  unfold shX6_fault at hsh
  refine lv_iload_n hx hb dX6_fault_0 rfl (lv_at hl 1 rfl) ?_
  refine lv_if_ne (tgt := 12) hx hb dX6_fault_1 (by decide) (fun c1 => ?_) (fun c1 => ?_)
  · skip
    have hsh := ite_t hsh c1
    refine lv_iload_n hx hb dX6_fault_12 rfl (lv_at hl 1 rfl) ?_
    refine lv_iconst (v := (1 : Int32)) hx hb dX6_fault_13 (by decide) ?_
    refine lv_icmp_ne (tgt := 27) hx hb dX6_fault_14 (by decide) (fun c1 => ?_) (fun c1 => ?_)
    · skip
      have hsh := ite_t hsh c1
      refine lv_iconst (v := (-1 : Int32)) hx hb dX6_fault_27 (by decide) ?_
      have ho := Option.some.inj hsh
      rw [← ho] at hret
      exact hret _ _ _ _ dX6_fault_28 hP hD hS
    · skip
      have hsh := ite_f hsh (fun h => h c1)
      refine lv_aload_n hx hb dX6_fault_17 rfl (lv_at hl 0 rfl) ?_
      refine kget (ci := 6) S hK hP rfl inX6_fault_X6 0 rfl 1 (by decide) lkX6_fault_19 rfl dX6_fault_18 ?_
      obtain ⟨o_21, he, hsh⟩ := bd hsh
      refine kVi (ci := 0) S hK hA (ctX0_faultPlace l D cI cJ cZ q_book q_book_numbers q_book_fresh q_book_told v_book_faultKind v_book_faultPlace v_book_at v_book_end o_21 he) noE_cl (cwV 0 hts gX6_fault_X0_faultPlace rfl rfl rfl hdX0_faultPlace ⟨Nat.le_of_ble_eq_true rfl, Nat.le_of_ble_eq_true rfl⟩) rfl 0 rfl [1] [0] [0, 1] (ws' := (wdX6_fault cI cJ cZ q_this q_tape q_book q_rocks q_villages q_ways q_planner q_book_numbers q_book_fresh q_book_told v_rigPlace v_day v_book_faultKind v_book_faultPlace v_book_at v_book_end)) ⟨rfl, rfl, rfl, rfl, rfl, rfl, rfl⟩ trivial rfl hl.1 rfl (Nat.le_of_ble_eq_true rfl) dX6_fault_21 hP hD hS (fun H locs hP hD hS => ?_)
      refine lv_goto (tgt := 28) hx hb dX6_fault_24 (by decide) ?_
      have ho := Option.some.inj hsh
      rw [← ho] at hret
      exact hret _ _ _ _ dX6_fault_28 hP hD hS
  · skip
    have hsh := ite_f hsh (fun h => h c1)
    refine lv_aload_n hx hb dX6_fault_4 rfl (lv_at hl 0 rfl) ?_
    refine kget (ci := 6) S hK hP rfl inX6_fault_X6 0 rfl 1 (by decide) lkX6_fault_19 rfl dX6_fault_5 ?_
    obtain ⟨o_8, he, hsh⟩ := bd hsh
    refine kVi (ci := 0) S hK hA (ctX0_faultKind l D cI cJ cZ q_book q_book_numbers q_book_fresh q_book_told v_book_faultKind v_book_faultPlace v_book_at v_book_end o_8 he) noE_cl (cwV 0 hts gX6_fault_X0_faultKind rfl rfl rfl hdX0_faultKind ⟨Nat.le_of_ble_eq_true rfl, Nat.le_of_ble_eq_true rfl⟩) rfl 0 rfl [1] [0] [0, 1] (ws' := (wdX6_fault cI cJ cZ q_this q_tape q_book q_rocks q_villages q_ways q_planner q_book_numbers q_book_fresh q_book_told v_rigPlace v_day v_book_faultKind v_book_faultPlace v_book_at v_book_end)) ⟨rfl, rfl, rfl, rfl, rfl, rfl, rfl⟩ trivial rfl hl.1 rfl (Nat.le_of_ble_eq_true rfl) dX6_fault_8 hP hD hS (fun H locs hP hD hS => ?_)
    have ho := Option.some.inj hsh
    rw [← ho] at hret
    exact hret _ _ _ _ dX6_fault_11 hP hD hS

/-! DryWells.rock -/
noncomputable def shX6_rock (a1 : Int32) (a2 : Int32) (a3 : Int32) (v_rocks_size : Int32) (w_rocks_priors : Nat → Int32) : Option (Int32 × Int32 × (Nat → Int32)) :=
  ((shX2_isPrior a1).bind fun o_1 => (if o_1 = 0 then some ((-1 : Int32), v_rocks_size, w_rocks_priors) else ((shX2_isPrior a2).bind fun o_8 => (if o_8 = 0 then some ((-1 : Int32), v_rocks_size, w_rocks_priors) else ((shX2_isPrior a3).bind fun o_15 => (if ¬ o_15 = 0 then ((shX2_append a1 a2 a3 v_rocks_size w_rocks_priors).bind fun o_30 => some (o_30.1, o_30.2.1, o_30.2.2)) else some ((-1 : Int32), v_rocks_size, w_rocks_priors)))))))
def wdX6_rock (cI cJ cZ : ClassId) (q_this q_tape q_book q_rocks q_villages q_ways q_planner q_rocks_priors q_rocks_chances q_rocks_wet q_rocks_barren q_rocks_pipes : Nat) (v_rigPlace : Int32) (v_day : Int32) (v_rocks_size : Int32) (w_rocks_priors : Nat → Int32) : va_W := [(q_this, .inr (6, [.ref q_tape, .ref q_book, .ref q_rocks, .ref q_villages, .ref q_ways, .ref q_planner, .int v_rigPlace, .int v_day])), (q_rocks, .inr (2, [.ref q_rocks_priors, .ref q_rocks_chances, .ref q_rocks_wet, .ref q_rocks_barren, .ref q_rocks_pipes, .int v_rocks_size])), (q_rocks_priors, .inl (cI, 12, .inl w_rocks_priors))]
abbrev rmX6_rock : Room := { frames := 1, cells := 0, slots := 0, locals := 24 }
theorem inX6_rock_X6 : ∀ w ∈ u_ws RX6 TX6 8, w ∈ wsX6_rock := fun _ h => List.mem_cons_of_mem _ (List.mem_append_left _ (List.mem_append_right _ h))
theorem inX6_rock_X2 : ∀ w ∈ u_ws RX2 TX2 6, w ∈ wsX6_rock := fun _ h => List.mem_cons_of_mem _ (List.mem_append_right _ h)
theorem lkX6_rock_26 : Cond.fieldLink RX6 26 (TX6 2).1 (TX6 2).2.1 (TX6 2).2.2.1 ∈ wsX6_rock := List.mem_of_getElem? (i := 1) rfl
theorem hdX6_rock : yX6_rock.cls = RX6 ∧ yX6_rock.cls ≠ "java/lang/invoke/MethodHandle" ∧ yX6_rock.cls ≠ "java/lang/invoke/VarHandle" ∧ (parseMethodDescriptor yX6_rock.desc).map (fun d => d.parameters.length) = some 3 := by decide +kernel
set_option maxHeartbeats 4000000 in
set_option maxRecDepth 100000 in
theorem ctX6_rock (l : Launch) (D : va_G) (cI cJ cZ : ClassId) (q_this q_tape q_book q_rocks q_villages q_ways q_planner q_rocks_priors q_rocks_chances q_rocks_wet q_rocks_barren q_rocks_pipes : Nat) (v_rigPlace : Int32) (v_day : Int32) (v_rocks_size : Int32) (w_rocks_priors : Nat → Int32) (a1 : Int32) (a2 : Int32) (a3 : Int32) (o : Int32 × Int32 × (Nat → Int32)) (hsh : shX6_rock a1 a2 a3 v_rocks_size w_rocks_priors = some o) : CtI l yX6_rock wsX6_rock rmX6_rock D (tys3 cI cJ cZ) noE (wdX6_rock cI cJ cZ q_this q_tape q_book q_rocks q_villages q_ways q_planner q_rocks_priors q_rocks_chances q_rocks_wet q_rocks_barren q_rocks_pipes v_rigPlace v_day v_rocks_size w_rocks_priors) [.ref q_this, .int a1, .int a2, .int a3] o.1 (wdX6_rock cI cJ cZ q_this q_tape q_book q_rocks q_villages q_ways q_planner q_rocks_priors q_rocks_chances q_rocks_wet q_rocks_barren q_rocks_pipes v_rigPlace v_day o.2.1 o.2.2) := by
  refine ctI plX6 rfl (Nat.le_of_ble_eq_true rfl) ?_
  intro p e s m below meth c A Q S hK hA hE hret H locs hP hD hS ls hl
  replace S : CallFix p m c cX6_rock 4 s _ wsX6_rock RX6 := S
  generalize ([.ref q_this, .int a1, .int a2, .int a3] : List Value).toArray = args at S hret ⊢
  obtain ⟨hx, hb, hml, hown, hts⟩ := id S
  replace hl : lv_has ls 4 [(0, .ref q_this), (1, .int a1), (2, .int a2), (3, .int a3)] := hl
  unfold shX6_rock at hsh
  refine lv_iload_n hx hb dX6_rock_0 rfl (lv_at hl 1 rfl) ?_
  obtain ⟨o_1, he, hsh⟩ := bd hsh
  refine kSi S hK hA (ctX2_isPrior l D cI cJ cZ a1 o_1 he) noE_cl (va_cwS 1 hts gX6_rock_X2_isPrior rfl rfl rfl hdX2_isPrior ⟨Nat.le_of_ble_eq_true rfl, Nat.le_of_ble_eq_true rfl⟩) [] [0, 1, 2] [0, 1, 2] (ws' := (wdX6_rock cI cJ cZ q_this q_tape q_book q_rocks q_villages q_ways q_planner q_rocks_priors q_rocks_chances q_rocks_wet q_rocks_barren q_rocks_pipes v_rigPlace v_day v_rocks_size w_rocks_priors)) ⟨rfl, rfl, rfl, rfl, rfl, rfl, rfl⟩ trivial rfl hl.1 rfl (Nat.le_of_ble_eq_true rfl) dX6_rock_1 hP hD hS (fun H locs hP hD hS => ?_)
  refine lv_if_eq (tgt := 21) hx hb dX6_rock_4 (by decide) (fun c1 => ?_) (fun c1 => ?_)
  · skip
    have hsh := ite_t hsh c1
    refine lv_iconst (v := (-1 : Int32)) hx hb dX6_rock_21 (by decide) ?_
    have ho := Option.some.inj hsh
    rw [← ho] at hret
    exact hret _ _ _ _ dX6_rock_22 hP hD hS
  · skip
    have hsh := ite_f hsh c1
    refine lv_iload_n hx hb dX6_rock_7 rfl (lv_at hl 2 rfl) ?_
    obtain ⟨o_8, he, hsh⟩ := bd hsh
    refine kSi S hK hA (ctX2_isPrior l D cI cJ cZ a2 o_8 he) noE_cl (va_cwS 1 hts gX6_rock_X2_isPrior rfl rfl rfl hdX2_isPrior ⟨Nat.le_of_ble_eq_true rfl, Nat.le_of_ble_eq_true rfl⟩) [] [0, 1, 2] [0, 1, 2] (ws' := (wdX6_rock cI cJ cZ q_this q_tape q_book q_rocks q_villages q_ways q_planner q_rocks_priors q_rocks_chances q_rocks_wet q_rocks_barren q_rocks_pipes v_rigPlace v_day v_rocks_size w_rocks_priors)) ⟨rfl, rfl, rfl, rfl, rfl, rfl, rfl⟩ trivial rfl hl.1 rfl (Nat.le_of_ble_eq_true rfl) dX6_rock_8 hP hD hS (fun H locs hP hD hS => ?_)
    refine lv_if_eq (tgt := 21) hx hb dX6_rock_11 (by decide) (fun c1 => ?_) (fun c1 => ?_)
    · skip
      have hsh := ite_t hsh c1
      refine lv_iconst (v := (-1 : Int32)) hx hb dX6_rock_21 (by decide) ?_
      have ho := Option.some.inj hsh
      rw [← ho] at hret
      exact hret _ _ _ _ dX6_rock_22 hP hD hS
    · skip
      have hsh := ite_f hsh c1
      refine lv_iload_n hx hb dX6_rock_14 rfl (lv_at hl 3 rfl) ?_
      obtain ⟨o_15, he, hsh⟩ := bd hsh
      refine kSi S hK hA (ctX2_isPrior l D cI cJ cZ a3 o_15 he) noE_cl (va_cwS 1 hts gX6_rock_X2_isPrior rfl rfl rfl hdX2_isPrior ⟨Nat.le_of_ble_eq_true rfl, Nat.le_of_ble_eq_true rfl⟩) [] [0, 1, 2] [0, 1, 2] (ws' := (wdX6_rock cI cJ cZ q_this q_tape q_book q_rocks q_villages q_ways q_planner q_rocks_priors q_rocks_chances q_rocks_wet q_rocks_barren q_rocks_pipes v_rigPlace v_day v_rocks_size w_rocks_priors)) ⟨rfl, rfl, rfl, rfl, rfl, rfl, rfl⟩ trivial rfl hl.1 rfl (Nat.le_of_ble_eq_true rfl) dX6_rock_15 hP hD hS (fun H locs hP hD hS => ?_)
      refine lv_if_ne (tgt := 23) hx hb dX6_rock_18 (by decide) (fun c1 => ?_) (fun c1 => ?_)
      · skip
        have hsh := ite_t hsh c1
        refine lv_aload_n hx hb dX6_rock_23 rfl (lv_at hl 0 rfl) ?_
        refine kget (ci := 6) S hK hP rfl inX6_rock_X6 0 rfl 2 (by decide) lkX6_rock_26 rfl dX6_rock_24 ?_
        refine lv_iload_n hx hb dX6_rock_27 rfl (lv_at hl 1 rfl) ?_
        refine lv_iload_n hx hb dX6_rock_28 rfl (lv_at hl 2 rfl) ?_
        refine lv_iload_n hx hb dX6_rock_29 rfl (lv_at hl 3 rfl) ?_
        obtain ⟨o_30, he, hsh⟩ := bd hsh
        refine kVi (ci := 2) S hK hA (ctX2_append l D cI cJ cZ q_rocks q_rocks_priors q_rocks_chances q_rocks_wet q_rocks_barren q_rocks_pipes v_rocks_size w_rocks_priors a1 a2 a3 o_30 he) noE_cl (cwV 3 hts gX6_rock_X2_append rfl rfl rfl hdX2_append ⟨Nat.le_of_ble_eq_true rfl, Nat.le_of_ble_eq_true rfl⟩) rfl 0 rfl [1, 2] [0] [0, 1, 2] (ws' := (wdX6_rock cI cJ cZ q_this q_tape q_book q_rocks q_villages q_ways q_planner q_rocks_priors q_rocks_chances q_rocks_wet q_rocks_barren q_rocks_pipes v_rigPlace v_day o_30.2.1 o_30.2.2)) ⟨rfl, rfl, rfl, rfl, rfl, rfl, rfl⟩ trivial rfl hl.1 rfl (Nat.le_of_ble_eq_true rfl) dX6_rock_30 hP hD hS (fun H locs hP hD hS => ?_)
        have ho := Option.some.inj hsh
        rw [← ho] at hret
        exact hret _ _ _ _ dX6_rock_33 hP hD hS
      · skip
        have hsh := ite_f hsh (fun h => h c1)
        refine lv_iconst (v := (-1 : Int32)) hx hb dX6_rock_21 (by decide) ?_
        have ho := Option.some.inj hsh
        rw [← ho] at hret
        exact hret _ _ _ _ dX6_rock_22 hP hD hS

/-! DryWells.chance -/
noncomputable def shX6_chance (a1 : Int32) (a2 : Int32) (a3 : Int32) (w_rocks_chances : Nat → Int32) : Option (Int32 × (Nat → Int32)) :=
  ((shX2_isQuality a1).bind fun o_1 => (if o_1 = 0 then some ((0 : Int32), w_rocks_chances) else ((shX2_isDepth a2).bind fun o_8 => (if o_8 = 0 then some ((0 : Int32), w_rocks_chances) else (if a3 < 0 then some ((0 : Int32), w_rocks_chances) else (if a3 ≤ (15 : Int32) then ((shX2_setChance a1 a2 a3 w_rocks_chances).bind fun o_33 => some ((1 : Int32), o_33)) else some ((0 : Int32), w_rocks_chances)))))))
def wdX6_chance (cI cJ cZ : ClassId) (q_this q_tape q_book q_rocks q_villages q_ways q_planner q_rocks_priors q_rocks_chances q_rocks_wet q_rocks_barren q_rocks_pipes : Nat) (v_rigPlace : Int32) (v_day : Int32) (v_rocks_size : Int32) (w_rocks_chances : Nat → Int32) : va_W := [(q_this, .inr (6, [.ref q_tape, .ref q_book, .ref q_rocks, .ref q_villages, .ref q_ways, .ref q_planner, .int v_rigPlace, .int v_day])), (q_rocks, .inr (2, [.ref q_rocks_priors, .ref q_rocks_chances, .ref q_rocks_wet, .ref q_rocks_barren, .ref q_rocks_pipes, .int v_rocks_size])), (q_rocks_chances, .inl (cI, 12, .inl w_rocks_chances))]
abbrev rmX6_chance : Room := { frames := 1, cells := 0, slots := 0, locals := 23 }
theorem inX6_chance_X6 : ∀ w ∈ u_ws RX6 TX6 8, w ∈ wsX6_chance := fun _ h => List.mem_cons_of_mem _ (List.mem_append_left _ (List.mem_append_right _ h))
theorem inX6_chance_X2 : ∀ w ∈ u_ws RX2 TX2 6, w ∈ wsX6_chance := fun _ h => List.mem_cons_of_mem _ (List.mem_append_right _ h)
theorem lkX6_chance_26 : Cond.fieldLink RX6 26 (TX6 2).1 (TX6 2).2.1 (TX6 2).2.2.1 ∈ wsX6_chance := List.mem_of_getElem? (i := 1) rfl
theorem hdX6_chance : yX6_chance.cls = RX6 ∧ yX6_chance.cls ≠ "java/lang/invoke/MethodHandle" ∧ yX6_chance.cls ≠ "java/lang/invoke/VarHandle" ∧ (parseMethodDescriptor yX6_chance.desc).map (fun d => d.parameters.length) = some 3 := by decide +kernel
set_option maxHeartbeats 4000000 in
set_option maxRecDepth 100000 in
theorem ctX6_chance (l : Launch) (D : va_G) (cI cJ cZ : ClassId) (q_this q_tape q_book q_rocks q_villages q_ways q_planner q_rocks_priors q_rocks_chances q_rocks_wet q_rocks_barren q_rocks_pipes : Nat) (v_rigPlace : Int32) (v_day : Int32) (v_rocks_size : Int32) (w_rocks_chances : Nat → Int32) (a1 : Int32) (a2 : Int32) (a3 : Int32) (o : Int32 × (Nat → Int32)) (hsh : shX6_chance a1 a2 a3 w_rocks_chances = some o) : CtI l yX6_chance wsX6_chance rmX6_chance D (tys3 cI cJ cZ) noE (wdX6_chance cI cJ cZ q_this q_tape q_book q_rocks q_villages q_ways q_planner q_rocks_priors q_rocks_chances q_rocks_wet q_rocks_barren q_rocks_pipes v_rigPlace v_day v_rocks_size w_rocks_chances) [.ref q_this, .int a1, .int a2, .int a3] o.1 (wdX6_chance cI cJ cZ q_this q_tape q_book q_rocks q_villages q_ways q_planner q_rocks_priors q_rocks_chances q_rocks_wet q_rocks_barren q_rocks_pipes v_rigPlace v_day v_rocks_size o.2) := by
  refine ctZ plX6 rfl (Nat.le_of_ble_eq_true rfl) ?_
  intro p e s m below meth c A Q S hK hA hE hret H locs hP hD hS ls hl
  replace S : CallFix p m c cX6_chance 4 s _ wsX6_chance RX6 := S
  generalize ([.ref q_this, .int a1, .int a2, .int a3] : List Value).toArray = args at S hret ⊢
  obtain ⟨hx, hb, hml, hown, hts⟩ := id S
  replace hl : lv_has ls 4 [(0, .ref q_this), (1, .int a1), (2, .int a2), (3, .int a3)] := hl
  unfold shX6_chance at hsh
  refine lv_iload_n hx hb dX6_chance_0 rfl (lv_at hl 1 rfl) ?_
  obtain ⟨o_1, he, hsh⟩ := bd hsh
  refine kSi S hK hA (ctX2_isQuality l D cI cJ cZ a1 o_1 he) noE_cl (va_cwS 1 hts gX6_chance_X2_isQuality rfl rfl rfl hdX2_isQuality ⟨Nat.le_of_ble_eq_true rfl, Nat.le_of_ble_eq_true rfl⟩) [] [0, 1, 2] [0, 1, 2] (ws' := (wdX6_chance cI cJ cZ q_this q_tape q_book q_rocks q_villages q_ways q_planner q_rocks_priors q_rocks_chances q_rocks_wet q_rocks_barren q_rocks_pipes v_rigPlace v_day v_rocks_size w_rocks_chances)) ⟨rfl, rfl, rfl, rfl, rfl, rfl, rfl⟩ trivial rfl hl.1 rfl (Nat.le_of_ble_eq_true rfl) dX6_chance_1 hP hD hS (fun H locs hP hD hS => ?_)
  refine lv_if_eq (tgt := 24) hx hb dX6_chance_4 (by decide) (fun c1 => ?_) (fun c1 => ?_)
  · skip
    have hsh := ite_t hsh c1
    refine lv_iconst (v := (0 : Int32)) hx hb dX6_chance_24 (by decide) ?_
    have ho := Option.some.inj hsh
    rw [← ho] at hret
    exact hret _ _ _ _ nar0 dX6_chance_25 hP hD hS
  · skip
    have hsh := ite_f hsh c1
    refine lv_iload_n hx hb dX6_chance_7 rfl (lv_at hl 2 rfl) ?_
    obtain ⟨o_8, he, hsh⟩ := bd hsh
    refine kSi S hK hA (ctX2_isDepth l D cI cJ cZ a2 o_8 he) noE_cl (va_cwS 1 hts gX6_chance_X2_isDepth rfl rfl rfl hdX2_isDepth ⟨Nat.le_of_ble_eq_true rfl, Nat.le_of_ble_eq_true rfl⟩) [] [0, 1, 2] [0, 1, 2] (ws' := (wdX6_chance cI cJ cZ q_this q_tape q_book q_rocks q_villages q_ways q_planner q_rocks_priors q_rocks_chances q_rocks_wet q_rocks_barren q_rocks_pipes v_rigPlace v_day v_rocks_size w_rocks_chances)) ⟨rfl, rfl, rfl, rfl, rfl, rfl, rfl⟩ trivial rfl hl.1 rfl (Nat.le_of_ble_eq_true rfl) dX6_chance_8 hP hD hS (fun H locs hP hD hS => ?_)
    refine lv_if_eq (tgt := 24) hx hb dX6_chance_11 (by decide) (fun c1 => ?_) (fun c1 => ?_)
    · skip
      have hsh := ite_t hsh c1
      refine lv_iconst (v := (0 : Int32)) hx hb dX6_chance_24 (by decide) ?_
      have ho := Option.some.inj hsh
      rw [← ho] at hret
      exact hret _ _ _ _ nar0 dX6_chance_25 hP hD hS
    · skip
      have hsh := ite_f hsh c1
      refine lv_iload_n hx hb dX6_chance_14 rfl (lv_at hl 3 rfl) ?_
      refine lv_if_lt (tgt := 24) hx hb dX6_chance_15 (by decide) (fun c1 => ?_) (fun c1 => ?_)
      · skip
        have hsh := ite_t hsh c1
        refine lv_iconst (v := (0 : Int32)) hx hb dX6_chance_24 (by decide) ?_
        have ho := Option.some.inj hsh
        rw [← ho] at hret
        exact hret _ _ _ _ nar0 dX6_chance_25 hP hD hS
      · skip
        have hsh := ite_f hsh c1
        refine lv_iload_n hx hb dX6_chance_18 rfl (lv_at hl 3 rfl) ?_
        refine lv_bipush (v := (15 : Int32)) hx hb dX6_chance_19 (by decide) ?_
        refine lv_icmp_le (tgt := 26) hx hb dX6_chance_21 (by decide) (fun c1 => ?_) (fun c1 => ?_)
        · skip
          have hsh := ite_t hsh c1
          refine lv_aload_n hx hb dX6_chance_26 rfl (lv_at hl 0 rfl) ?_
          refine kget (ci := 6) S hK hP rfl inX6_chance_X6 0 rfl 2 (by decide) lkX6_chance_26 rfl dX6_chance_27 ?_
          refine lv_iload_n hx hb dX6_chance_30 rfl (lv_at hl 1 rfl) ?_
          refine lv_iload_n hx hb dX6_chance_31 rfl (lv_at hl 2 rfl) ?_
          refine lv_iload_n hx hb dX6_chance_32 rfl (lv_at hl 3 rfl) ?_
          obtain ⟨o_33, he, hsh⟩ := bd hsh
          refine kVv (ci := 2) S hK hA (ctX2_setChance l D cI cJ cZ q_rocks q_rocks_priors q_rocks_chances q_rocks_wet q_rocks_barren q_rocks_pipes v_rocks_size w_rocks_chances a1 a2 a3 o_33 he) noE_cl (cwV 3 hts gX6_chance_X2_setChance rfl rfl rfl hdX2_setChance ⟨Nat.le_of_ble_eq_true rfl, Nat.le_of_ble_eq_true rfl⟩) rfl 0 rfl [1, 2] [0] [0, 1, 2] (ws' := (wdX6_chance cI cJ cZ q_this q_tape q_book q_rocks q_villages q_ways q_planner q_rocks_priors q_rocks_chances q_rocks_wet q_rocks_barren q_rocks_pipes v_rigPlace v_day v_rocks_size o_33)) ⟨rfl, rfl, rfl, rfl, rfl, rfl, rfl⟩ trivial rfl hl.1 rfl (Nat.le_of_ble_eq_true rfl) dX6_chance_33 hP hD hS (fun H locs hP hD hS => ?_)
          refine lv_iconst (v := (1 : Int32)) hx hb dX6_chance_36 (by decide) ?_
          have ho := Option.some.inj hsh
          rw [← ho] at hret
          exact hret _ _ _ _ nar1 dX6_chance_37 hP hD hS
        · skip
          have hsh := ite_f hsh c1
          refine lv_iconst (v := (0 : Int32)) hx hb dX6_chance_24 (by decide) ?_
          have ho := Option.some.inj hsh
          rw [← ho] at hret
          exact hret _ _ _ _ nar0 dX6_chance_25 hP hD hS

/-! DryWells.village -/
noncomputable def shX6_village (a1 : Int32) (a2 : Int32) (v_rocks_size : Int32) (v_villages_size : Int32) (w_villages_rocks : Nat → Int32) (w_villages_people : Nat → Int32) (w_villages_badHoles : Nat → Int32) (w_villages_wellPipes : Nat → Int32) (w_villages_endAges : Nat → Int32) (w_villages_runAges : Nat → Int32) : Option (Int32 × Int32 × (Nat → Int32) × (Nat → Int32) × (Nat → Int32) × (Nat → Int32) × (Nat → Int32) × (Nat → Int32)) :=
  ((shX2_has a1 v_rocks_size).bind fun o_5 => (if o_5 = 0 then some ((-1 : Int32), v_villages_size, w_villages_rocks, w_villages_people, w_villages_badHoles, w_villages_wellPipes, w_villages_endAges, w_villages_runAges) else (if a2 < (1 : Int32) then some ((-1 : Int32), v_villages_size, w_villages_rocks, w_villages_people, w_villages_badHoles, w_villages_wellPipes, w_villages_endAges, w_villages_runAges) else (if a2 ≤ (9999 : Int32) then ((shX4_append a1 a2 v_villages_size w_villages_rocks w_villages_people w_villages_badHoles w_villages_wellPipes w_villages_endAges w_villages_runAges).bind fun o_31 => some (o_31.1, o_31.2.1, o_31.2.2.1, o_31.2.2.2.1, o_31.2.2.2.2.1, o_31.2.2.2.2.2.1, o_31.2.2.2.2.2.2.1, o_31.2.2.2.2.2.2.2)) else some ((-1 : Int32), v_villages_size, w_villages_rocks, w_villages_people, w_villages_badHoles, w_villages_wellPipes, w_villages_endAges, w_villages_runAges)))))
def wdX6_village (cI cJ cZ : ClassId) (q_this q_tape q_book q_rocks q_villages q_ways q_planner q_rocks_priors q_rocks_chances q_rocks_wet q_rocks_barren q_rocks_pipes q_villages_rocks q_villages_people q_villages_badHoles q_villages_wellPipes q_villages_endAges q_villages_runAges : Nat) (v_rigPlace : Int32) (v_day : Int32) (v_rocks_size : Int32) (v_villages_size : Int32) (w_villages_rocks : Nat → Int32) (w_villages_people : Nat → Int32) (w_villages_badHoles : Nat → Int32) (w_villages_wellPipes : Nat → Int32) (w_villages_endAges : Nat → Int32) (w_villages_runAges : Nat → Int32) : va_W := [(q_this, .inr (6, [.ref q_tape, .ref q_book, .ref q_rocks, .ref q_villages, .ref q_ways, .ref q_planner, .int v_rigPlace, .int v_day])), (q_rocks, .inr (2, [.ref q_rocks_priors, .ref q_rocks_chances, .ref q_rocks_wet, .ref q_rocks_barren, .ref q_rocks_pipes, .int v_rocks_size])), (q_villages, .inr (4, [.ref q_villages_rocks, .ref q_villages_people, .ref q_villages_badHoles, .ref q_villages_wellPipes, .ref q_villages_endAges, .ref q_villages_runAges, .int v_villages_size])), (q_villages_rocks, .inl (cI, 8, .inl w_villages_rocks)), (q_villages_people, .inl (cI, 8, .inl w_villages_people)), (q_villages_badHoles, .inl (cI, 8, .inl w_villages_badHoles)), (q_villages_wellPipes, .inl (cI, 8, .inl w_villages_wellPipes)), (q_villages_endAges, .inl (cI, 8, .inl w_villages_endAges)), (q_villages_runAges, .inl (cI, 8, .inl w_villages_runAges))]
abbrev rmX6_village : Room := { frames := 1, cells := 0, slots := 0, locals := 22 }
theorem inX6_village_X6 : ∀ w ∈ u_ws RX6 TX6 8, w ∈ wsX6_village := fun _ h => List.mem_cons_of_mem _ (List.mem_append_left _ (List.mem_append_left _ (List.mem_append_right _ h)))
theorem inX6_village_X2 : ∀ w ∈ u_ws RX2 TX2 6, w ∈ wsX6_village := fun _ h => List.mem_cons_of_mem _ (List.mem_append_left _ (List.mem_append_right _ h))
theorem inX6_village_X4 : ∀ w ∈ u_ws RX4 TX4 7, w ∈ wsX6_village := fun _ h => List.mem_cons_of_mem _ (List.mem_append_right _ h)
theorem lkX6_village_26 : Cond.fieldLink RX6 26 (TX6 2).1 (TX6 2).2.1 (TX6 2).2.2.1 ∈ wsX6_village := List.mem_of_getElem? (i := 1) rfl
theorem lkX6_village_33 : Cond.fieldLink RX6 33 (TX6 3).1 (TX6 3).2.1 (TX6 3).2.2.1 ∈ wsX6_village := List.mem_of_getElem? (i := 2) rfl
theorem hdX6_village : yX6_village.cls = RX6 ∧ yX6_village.cls ≠ "java/lang/invoke/MethodHandle" ∧ yX6_village.cls ≠ "java/lang/invoke/VarHandle" ∧ (parseMethodDescriptor yX6_village.desc).map (fun d => d.parameters.length) = some 2 := by decide +kernel
set_option maxHeartbeats 4000000 in
set_option maxRecDepth 100000 in
theorem ctX6_village (l : Launch) (D : va_G) (cI cJ cZ : ClassId) (q_this q_tape q_book q_rocks q_villages q_ways q_planner q_rocks_priors q_rocks_chances q_rocks_wet q_rocks_barren q_rocks_pipes q_villages_rocks q_villages_people q_villages_badHoles q_villages_wellPipes q_villages_endAges q_villages_runAges : Nat) (v_rigPlace : Int32) (v_day : Int32) (v_rocks_size : Int32) (v_villages_size : Int32) (w_villages_rocks : Nat → Int32) (w_villages_people : Nat → Int32) (w_villages_badHoles : Nat → Int32) (w_villages_wellPipes : Nat → Int32) (w_villages_endAges : Nat → Int32) (w_villages_runAges : Nat → Int32) (a1 : Int32) (a2 : Int32) (o : Int32 × Int32 × (Nat → Int32) × (Nat → Int32) × (Nat → Int32) × (Nat → Int32) × (Nat → Int32) × (Nat → Int32)) (hsh : shX6_village a1 a2 v_rocks_size v_villages_size w_villages_rocks w_villages_people w_villages_badHoles w_villages_wellPipes w_villages_endAges w_villages_runAges = some o) : CtI l yX6_village wsX6_village rmX6_village D (tys3 cI cJ cZ) noE (wdX6_village cI cJ cZ q_this q_tape q_book q_rocks q_villages q_ways q_planner q_rocks_priors q_rocks_chances q_rocks_wet q_rocks_barren q_rocks_pipes q_villages_rocks q_villages_people q_villages_badHoles q_villages_wellPipes q_villages_endAges q_villages_runAges v_rigPlace v_day v_rocks_size v_villages_size w_villages_rocks w_villages_people w_villages_badHoles w_villages_wellPipes w_villages_endAges w_villages_runAges) [.ref q_this, .int a1, .int a2] o.1 (wdX6_village cI cJ cZ q_this q_tape q_book q_rocks q_villages q_ways q_planner q_rocks_priors q_rocks_chances q_rocks_wet q_rocks_barren q_rocks_pipes q_villages_rocks q_villages_people q_villages_badHoles q_villages_wellPipes q_villages_endAges q_villages_runAges v_rigPlace v_day v_rocks_size o.2.1 o.2.2.1 o.2.2.2.1 o.2.2.2.2.1 o.2.2.2.2.2.1 o.2.2.2.2.2.2.1 o.2.2.2.2.2.2.2) := by
  refine ctI plX6 rfl (Nat.le_of_ble_eq_true rfl) ?_
  intro p e s m below meth c A Q S hK hA hE hret H locs hP hD hS ls hl
  replace S : CallFix p m c cX6_village 3 s _ wsX6_village RX6 := S
  generalize ([.ref q_this, .int a1, .int a2] : List Value).toArray = args at S hret ⊢
  obtain ⟨hx, hb, hml, hown, hts⟩ := id S
  replace hl : lv_has ls 3 [(0, .ref q_this), (1, .int a1), (2, .int a2)] := hl
  unfold shX6_village at hsh
  refine lv_aload_n hx hb dX6_village_0 rfl (lv_at hl 0 rfl) ?_
  refine kget (ci := 6) S hK hP rfl inX6_village_X6 0 rfl 2 (by decide) lkX6_village_26 rfl dX6_village_1 ?_
  refine lv_iload_n hx hb dX6_village_4 rfl (lv_at hl 1 rfl) ?_
  obtain ⟨o_5, he, hsh⟩ := bd hsh
  refine kVi (ci := 2) S hK hA (ctX2_has l D cI cJ cZ q_rocks q_rocks_priors q_rocks_chances q_rocks_wet q_rocks_barren q_rocks_pipes v_rocks_size a1 o_5 he) noE_cl (cwV 1 hts gX6_village_X2_has rfl rfl rfl hdX2_has ⟨Nat.le_of_ble_eq_true rfl, Nat.le_of_ble_eq_true rfl⟩) rfl 0 rfl [1] [0, 2, 3, 4, 5, 6, 7, 8] [0, 8, 1, 2, 3, 4, 5, 6, 7] (ws' := (wdX6_village cI cJ cZ q_this q_tape q_book q_rocks q_villages q_ways q_planner q_rocks_priors q_rocks_chances q_rocks_wet q_rocks_barren q_rocks_pipes q_villages_rocks q_villages_people q_villages_badHoles q_villages_wellPipes q_villages_endAges q_villages_runAges v_rigPlace v_day v_rocks_size v_villages_size w_villages_rocks w_villages_people w_villages_badHoles w_villages_wellPipes w_villages_endAges w_villages_runAges)) ⟨rfl, rfl, rfl, rfl, rfl, rfl, rfl⟩ trivial rfl hl.1 rfl (Nat.le_of_ble_eq_true rfl) dX6_village_5 hP hD hS (fun H locs hP hD hS => ?_)
  refine lv_if_eq (tgt := 23) hx hb dX6_village_8 (by decide) (fun c1 => ?_) (fun c1 => ?_)
  · skip
    have hsh := ite_t hsh c1
    refine lv_iconst (v := (-1 : Int32)) hx hb dX6_village_23 (by decide) ?_
    have ho := Option.some.inj hsh
    rw [← ho] at hret
    exact hret _ _ _ _ dX6_village_24 hP hD hS
  · skip
    have hsh := ite_f hsh c1
    refine lv_iload_n hx hb dX6_village_11 rfl (lv_at hl 2 rfl) ?_
    refine lv_iconst (v := (1 : Int32)) hx hb dX6_village_12 (by decide) ?_
    refine lv_icmp_lt (tgt := 23) hx hb dX6_village_13 (by decide) (fun c1 => ?_) (fun c1 => ?_)
    · skip
      have hsh := ite_t hsh c1
      refine lv_iconst (v := (-1 : Int32)) hx hb dX6_village_23 (by decide) ?_
      have ho := Option.some.inj hsh
      rw [← ho] at hret
      exact hret _ _ _ _ dX6_village_24 hP hD hS
    · skip
      have hsh := ite_f hsh c1
      refine lv_iload_n hx hb dX6_village_16 rfl (lv_at hl 2 rfl) ?_
      refine lv_sipush (v := (9999 : Int32)) hx hb dX6_village_17 (by decide) ?_
      refine lv_icmp_le (tgt := 25) hx hb dX6_village_20 (by decide) (fun c1 => ?_) (fun c1 => ?_)
      · skip
        have hsh := ite_t hsh c1
        refine lv_aload_n hx hb dX6_village_25 rfl (lv_at hl 0 rfl) ?_
        refine kget (ci := 6) S hK hP rfl inX6_village_X6 0 rfl 3 (by decide) lkX6_village_33 rfl dX6_village_26 ?_
        refine lv_iload_n hx hb dX6_village_29 rfl (lv_at hl 1 rfl) ?_
        refine lv_iload_n hx hb dX6_village_30 rfl (lv_at hl 2 rfl) ?_
        obtain ⟨o_31, he, hsh⟩ := bd hsh
        refine kVi (ci := 4) S hK hA (ctX4_append l D cI cJ cZ q_villages q_villages_rocks q_villages_people q_villages_badHoles q_villages_wellPipes q_villages_endAges q_villages_runAges v_villages_size w_villages_rocks w_villages_people w_villages_badHoles w_villages_wellPipes w_villages_endAges w_villages_runAges a1 a2 o_31 he) noE_cl (cwV 2 hts gX6_village_X4_append rfl rfl rfl hdX4_append ⟨Nat.le_of_ble_eq_true rfl, Nat.le_of_ble_eq_true rfl⟩) rfl 0 rfl [2, 3, 4, 5, 6, 7, 8] [0, 1] [0, 1, 2, 3, 4, 5, 6, 7, 8] (ws' := (wdX6_village cI cJ cZ q_this q_tape q_book q_rocks q_villages q_ways q_planner q_rocks_priors q_rocks_chances q_rocks_wet q_rocks_barren q_rocks_pipes q_villages_rocks q_villages_people q_villages_badHoles q_villages_wellPipes q_villages_endAges q_villages_runAges v_rigPlace v_day v_rocks_size o_31.2.1 o_31.2.2.1 o_31.2.2.2.1 o_31.2.2.2.2.1 o_31.2.2.2.2.2.1 o_31.2.2.2.2.2.2.1 o_31.2.2.2.2.2.2.2)) ⟨rfl, rfl, rfl, rfl, rfl, rfl, rfl⟩ trivial rfl hl.1 rfl (Nat.le_of_ble_eq_true rfl) dX6_village_31 hP hD hS (fun H locs hP hD hS => ?_)
        have ho := Option.some.inj hsh
        rw [← ho] at hret
        exact hret _ _ _ _ dX6_village_34 hP hD hS
      · skip
        have hsh := ite_f hsh c1
        refine lv_iconst (v := (-1 : Int32)) hx hb dX6_village_23 (by decide) ?_
        have ho := Option.some.inj hsh
        rw [← ho] at hret
        exact hret _ _ _ _ dX6_village_24 hP hD hS

/-! DryWells.isPlace -/
noncomputable def shX6_isPlace (a1 : Int32) (v_villages_size : Int32) : Option (Int32) :=
  (if a1 = 0 then some (1 : Int32) else ((shX4_has a1 v_villages_size).bind fun o_9 => (if o_9 = 0 then some (0 : Int32) else some (1 : Int32))))
def wdX6_isPlace (cI cJ cZ : ClassId) (q_this q_tape q_book q_rocks q_villages q_ways q_planner q_villages_rocks q_villages_people q_villages_badHoles q_villages_wellPipes q_villages_endAges q_villages_runAges : Nat) (v_rigPlace : Int32) (v_day : Int32) (v_villages_size : Int32) : va_W := [(q_this, .inr (6, [.ref q_tape, .ref q_book, .ref q_rocks, .ref q_villages, .ref q_ways, .ref q_planner, .int v_rigPlace, .int v_day])), (q_villages, .inr (4, [.ref q_villages_rocks, .ref q_villages_people, .ref q_villages_badHoles, .ref q_villages_wellPipes, .ref q_villages_endAges, .ref q_villages_runAges, .int v_villages_size]))]
abbrev rmX6_isPlace : Room := { frames := 1, cells := 0, slots := 0, locals := 21 }
theorem inX6_isPlace_X6 : ∀ w ∈ u_ws RX6 TX6 8, w ∈ wsX6_isPlace := fun _ h => List.mem_cons_of_mem _ (List.mem_append_left _ (List.mem_append_right _ h))
theorem inX6_isPlace_X4 : ∀ w ∈ u_ws RX4 TX4 7, w ∈ wsX6_isPlace := fun _ h => List.mem_cons_of_mem _ (List.mem_append_right _ h)
theorem lkX6_isPlace_33 : Cond.fieldLink RX6 33 (TX6 3).1 (TX6 3).2.1 (TX6 3).2.2.1 ∈ wsX6_isPlace := List.mem_of_getElem? (i := 1) rfl
theorem hdX6_isPlace : yX6_isPlace.cls = RX6 ∧ yX6_isPlace.cls ≠ "java/lang/invoke/MethodHandle" ∧ yX6_isPlace.cls ≠ "java/lang/invoke/VarHandle" ∧ (parseMethodDescriptor yX6_isPlace.desc).map (fun d => d.parameters.length) = some 1 := by decide +kernel
set_option maxHeartbeats 4000000 in
set_option maxRecDepth 100000 in
theorem ctX6_isPlace (l : Launch) (D : va_G) (cI cJ cZ : ClassId) (q_this q_tape q_book q_rocks q_villages q_ways q_planner q_villages_rocks q_villages_people q_villages_badHoles q_villages_wellPipes q_villages_endAges q_villages_runAges : Nat) (v_rigPlace : Int32) (v_day : Int32) (v_villages_size : Int32) (a1 : Int32) (o : Int32) (hsh : shX6_isPlace a1 v_villages_size = some o) : CtI l yX6_isPlace wsX6_isPlace rmX6_isPlace D (tys3 cI cJ cZ) noE (wdX6_isPlace cI cJ cZ q_this q_tape q_book q_rocks q_villages q_ways q_planner q_villages_rocks q_villages_people q_villages_badHoles q_villages_wellPipes q_villages_endAges q_villages_runAges v_rigPlace v_day v_villages_size) [.ref q_this, .int a1] o (wdX6_isPlace cI cJ cZ q_this q_tape q_book q_rocks q_villages q_ways q_planner q_villages_rocks q_villages_people q_villages_badHoles q_villages_wellPipes q_villages_endAges q_villages_runAges v_rigPlace v_day v_villages_size) := by
  refine ctZ plX6 rfl (Nat.le_of_ble_eq_true rfl) ?_
  intro p e s m below meth c A Q S hK hA hE hret H locs hP hD hS ls hl
  replace S : CallFix p m c cX6_isPlace 2 s _ wsX6_isPlace RX6 := S
  generalize ([.ref q_this, .int a1] : List Value).toArray = args at S hret ⊢
  obtain ⟨hx, hb, hml, hown, hts⟩ := id S
  replace hl : lv_has ls 2 [(0, .ref q_this), (1, .int a1)] := hl
  unfold shX6_isPlace at hsh
  refine lv_iload_n hx hb dX6_isPlace_0 rfl (lv_at hl 1 rfl) ?_
  refine lv_if_eq (tgt := 15) hx hb dX6_isPlace_1 (by decide) (fun c1 => ?_) (fun c1 => ?_)
  · skip
    have hsh := ite_t hsh c1
    refine lv_iconst (v := (1 : Int32)) hx hb dX6_isPlace_15 (by decide) ?_
    refine lv_goto (tgt := 20) hx hb dX6_isPlace_16 (by decide) ?_
    have ho := Option.some.inj hsh
    rw [← ho] at hret
    exact hret _ _ _ _ nar1 dX6_isPlace_20 hP hD hS
  · skip
    have hsh := ite_f hsh c1
    refine lv_aload_n hx hb dX6_isPlace_4 rfl (lv_at hl 0 rfl) ?_
    refine kget (ci := 6) S hK hP rfl inX6_isPlace_X6 0 rfl 3 (by decide) lkX6_isPlace_33 rfl dX6_isPlace_5 ?_
    refine lv_iload_n hx hb dX6_isPlace_8 rfl (lv_at hl 1 rfl) ?_
    obtain ⟨o_9, he, hsh⟩ := bd hsh
    refine kVi (ci := 4) S hK hA (ctX4_has l D cI cJ cZ q_villages q_villages_rocks q_villages_people q_villages_badHoles q_villages_wellPipes q_villages_endAges q_villages_runAges v_villages_size a1 o_9 he) noE_cl (cwV 1 hts gX6_isPlace_X4_has rfl rfl rfl hdX4_has ⟨Nat.le_of_ble_eq_true rfl, Nat.le_of_ble_eq_true rfl⟩) rfl 0 rfl [1] [0] [0, 1] (ws' := (wdX6_isPlace cI cJ cZ q_this q_tape q_book q_rocks q_villages q_ways q_planner q_villages_rocks q_villages_people q_villages_badHoles q_villages_wellPipes q_villages_endAges q_villages_runAges v_rigPlace v_day v_villages_size)) ⟨rfl, rfl, rfl, rfl, rfl, rfl, rfl⟩ trivial rfl hl.1 rfl (Nat.le_of_ble_eq_true rfl) dX6_isPlace_9 hP hD hS (fun H locs hP hD hS => ?_)
    refine lv_if_eq (tgt := 19) hx hb dX6_isPlace_12 (by decide) (fun c1 => ?_) (fun c1 => ?_)
    · skip
      have hsh := ite_t hsh c1
      refine lv_iconst (v := (0 : Int32)) hx hb dX6_isPlace_19 (by decide) ?_
      have ho := Option.some.inj hsh
      rw [← ho] at hret
      exact hret _ _ _ _ nar0 dX6_isPlace_20 hP hD hS
    · skip
      have hsh := ite_f hsh c1
      refine lv_iconst (v := (1 : Int32)) hx hb dX6_isPlace_15 (by decide) ?_
      refine lv_goto (tgt := 20) hx hb dX6_isPlace_16 (by decide) ?_
      have ho := Option.some.inj hsh
      rw [← ho] at hret
      exact hret _ _ _ _ nar1 dX6_isPlace_20 hP hD hS

/-! DryWells.way -/
noncomputable def shX6_way_j_41 (a1 : Int32) (a2 : Int32) (a3 : Int32) (w_ways_days : Nat → Int32) : Option (Int32 × (Nat → Int32)) :=
  ((shX5_set a1 a2 a3 w_ways_days).bind fun o_48 => some ((1 : Int32), o_48))
noncomputable def shX6_way (a1 : Int32) (a2 : Int32) (a3 : Int32) (v_villages_size : Int32) (w_ways_days : Nat → Int32) : Option (Int32 × (Nat → Int32)) :=
  ((shX6_isPlace a1 v_villages_size).bind fun o_2 => (if o_2 = 0 then some ((0 : Int32), w_ways_days) else ((shX6_isPlace a2 v_villages_size).bind fun o_10 => (if o_10 = 0 then some ((0 : Int32), w_ways_days) else (if ¬ a1 = a2 then (if a3 = (-1 : Int32) then (shX6_way_j_41 a1 a2 a3 w_ways_days) else (if a3 < (1 : Int32) then some ((0 : Int32), w_ways_days) else (if a3 ≤ (9 : Int32) then (shX6_way_j_41 a1 a2 a3 w_ways_days) else some ((0 : Int32), w_ways_days)))) else some ((0 : Int32), w_ways_days))))))
def wdX6_way (cI cJ cZ : ClassId) (q_this q_tape q_book q_rocks q_villages q_ways q_planner q_villages_rocks q_villages_people q_villages_badHoles q_villages_wellPipes q_villages_endAges q_villages_runAges q_ways_days : Nat) (v_rigPlace : Int32) (v_day : Int32) (v_villages_size : Int32) (w_ways_days : Nat → Int32) : va_W := [(q_this, .inr (6, [.ref q_tape, .ref q_book, .ref q_rocks, .ref q_villages, .ref q_ways, .ref q_planner, .int v_rigPlace, .int v_day])), (q_villages, .inr (4, [.ref q_villages_rocks, .ref q_villages_people, .ref q_villages_badHoles, .ref q_villages_wellPipes, .ref q_villages_endAges, .ref q_villages_runAges, .int v_villages_size])), (q_ways, .inr (5, [.ref q_ways_days])), (q_ways_days, .inl (cI, 64, .inl w_ways_days))]
abbrev rmX6_way : Room := { frames := 2, cells := 0, slots := 0, locals := 42 }
theorem inX6_way_X6 : ∀ w ∈ u_ws RX6 TX6 8, w ∈ wsX6_way := fun _ h => List.mem_cons_of_mem _ (List.mem_append_left _ (List.mem_append_left _ (List.mem_append_right _ h)))
theorem inX6_way_X4 : ∀ w ∈ u_ws RX4 TX4 7, w ∈ wsX6_way := fun _ h => List.mem_cons_of_mem _ (List.mem_append_left _ (List.mem_append_right _ h))
theorem inX6_way_X5 : ∀ w ∈ u_ws RX5 TX5 1, w ∈ wsX6_way := fun _ h => List.mem_cons_of_mem _ (List.mem_append_right _ h)
theorem lkX6_way_40 : Cond.fieldLink RX6 40 (TX6 4).1 (TX6 4).2.1 (TX6 4).2.2.1 ∈ wsX6_way := List.mem_of_getElem? (i := 1) rfl
theorem hdX6_way : yX6_way.cls = RX6 ∧ yX6_way.cls ≠ "java/lang/invoke/MethodHandle" ∧ yX6_way.cls ≠ "java/lang/invoke/VarHandle" ∧ (parseMethodDescriptor yX6_way.desc).map (fun d => d.parameters.length) = some 3 := by decide +kernel
set_option maxHeartbeats 4000000 in
set_option maxRecDepth 100000 in
theorem ctX6_way (l : Launch) (D : va_G) (cI cJ cZ : ClassId) (q_this q_tape q_book q_rocks q_villages q_ways q_planner q_villages_rocks q_villages_people q_villages_badHoles q_villages_wellPipes q_villages_endAges q_villages_runAges q_ways_days : Nat) (v_rigPlace : Int32) (v_day : Int32) (v_villages_size : Int32) (w_ways_days : Nat → Int32) (a1 : Int32) (a2 : Int32) (a3 : Int32) (o : Int32 × (Nat → Int32)) (hsh : shX6_way a1 a2 a3 v_villages_size w_ways_days = some o) : CtI l yX6_way wsX6_way rmX6_way D (tys3 cI cJ cZ) noE (wdX6_way cI cJ cZ q_this q_tape q_book q_rocks q_villages q_ways q_planner q_villages_rocks q_villages_people q_villages_badHoles q_villages_wellPipes q_villages_endAges q_villages_runAges q_ways_days v_rigPlace v_day v_villages_size w_ways_days) [.ref q_this, .int a1, .int a2, .int a3] o.1 (wdX6_way cI cJ cZ q_this q_tape q_book q_rocks q_villages q_ways q_planner q_villages_rocks q_villages_people q_villages_badHoles q_villages_wellPipes q_villages_endAges q_villages_runAges q_ways_days v_rigPlace v_day v_villages_size o.2) := by
  refine ctZ plX6 rfl (Nat.le_of_ble_eq_true rfl) ?_
  intro p e s m below meth c A Q S hK hA hE hret H locs hP hD hS ls hl
  replace S : CallFix p m c cX6_way 4 s _ wsX6_way RX6 := S
  generalize ([.ref q_this, .int a1, .int a2, .int a3] : List Value).toArray = args at S hret ⊢
  obtain ⟨hx, hb, hml, hown, hts⟩ := id S
  replace hl : lv_has ls 4 [(0, .ref q_this), (1, .int a1), (2, .int a2), (3, .int a3)] := hl
  unfold shX6_way at hsh
  have Jj_41 : ∀ (H : Heap) (locs : List Loc), va_P D vwCl (wdX6_way cI cJ cZ q_this q_tape q_book q_rocks q_villages q_ways q_planner q_villages_rocks q_villages_people q_villages_badHoles q_villages_wellPipes q_villages_endAges q_villages_runAges q_ways_days v_rigPlace v_day v_villages_size w_ways_days) H → va_D A (wdX6_way cI cJ cZ q_this q_tape q_book q_rocks q_villages q_ways q_planner q_villages_rocks q_villages_people q_villages_badHoles q_villages_wellPipes q_villages_endAges q_villages_runAges q_ways_days v_rigPlace v_day v_villages_size w_ways_days) → va_S A s.heap H locs → ∀ ls : Array Slot, lv_has ls 4 [(0, .ref q_this), (1, .int a1), (2, .int a2), (3, .int a3)] → shX6_way_j_41 a1 a2 a3 w_ways_days = some o → W p l e rmX6_way s m args below meth c H locs 0 0 Q (F0 m 41 ls []) := by
    intro  H locs hP hD hS ls hl hsh
    unfold shX6_way_j_41 at hsh
    refine lv_aload_n hx hb dX6_way_41 rfl (lv_at hl 0 rfl) ?_
    refine kget (ci := 6) S hK hP rfl inX6_way_X6 0 rfl 4 (by decide) lkX6_way_40 rfl dX6_way_42 ?_
    refine lv_iload_n hx hb dX6_way_45 rfl (lv_at hl 1 rfl) ?_
    refine lv_iload_n hx hb dX6_way_46 rfl (lv_at hl 2 rfl) ?_
    refine lv_iload_n hx hb dX6_way_47 rfl (lv_at hl 3 rfl) ?_
    obtain ⟨o_48, he, hsh⟩ := bd hsh
    refine kVv (ci := 5) S hK hA (ctX5_set l D cI cJ cZ q_ways q_ways_days w_ways_days a1 a2 a3 o_48 he) noE_cl (cwV 3 hts gX6_way_X5_set rfl rfl rfl hdX5_set ⟨Nat.le_of_ble_eq_true rfl, Nat.le_of_ble_eq_true rfl⟩) rfl 0 rfl [2, 3] [0, 1] [0, 1, 2, 3] (ws' := (wdX6_way cI cJ cZ q_this q_tape q_book q_rocks q_villages q_ways q_planner q_villages_rocks q_villages_people q_villages_badHoles q_villages_wellPipes q_villages_endAges q_villages_runAges q_ways_days v_rigPlace v_day v_villages_size o_48)) ⟨rfl, rfl, rfl, rfl, rfl, rfl, rfl⟩ trivial rfl hl.1 rfl (Nat.le_of_ble_eq_true rfl) dX6_way_48 hP hD hS (fun H locs hP hD hS => ?_)
    refine lv_iconst (v := (1 : Int32)) hx hb dX6_way_51 (by decide) ?_
    have ho := Option.some.inj hsh
    rw [← ho] at hret
    exact hret _ _ _ _ nar1 dX6_way_52 hP hD hS
  refine lv_aload_n hx hb dX6_way_0 rfl (lv_at hl 0 rfl) ?_
  refine lv_iload_n hx hb dX6_way_1 rfl (lv_at hl 1 rfl) ?_
  obtain ⟨o_2, he, hsh⟩ := bd hsh
  refine kVi (ci := 6) S hK hA (ctX6_isPlace l D cI cJ cZ q_this q_tape q_book q_rocks q_villages q_ways q_planner q_villages_rocks q_villages_people q_villages_badHoles q_villages_wellPipes q_villages_endAges q_villages_runAges v_rigPlace v_day v_villages_size a1 o_2 he) noE_cl (cwV 1 hts gX6_way_X6_isPlace rfl rfl rfl hdX6_isPlace ⟨Nat.le_of_ble_eq_true rfl, Nat.le_of_ble_eq_true rfl⟩) rfl 0 rfl [0, 1] [2, 3] [2, 3, 0, 1] (ws' := (wdX6_way cI cJ cZ q_this q_tape q_book q_rocks q_villages q_ways q_planner q_villages_rocks q_villages_people q_villages_badHoles q_villages_wellPipes q_villages_endAges q_villages_runAges q_ways_days v_rigPlace v_day v_villages_size w_ways_days)) ⟨rfl, rfl, rfl, rfl, rfl, rfl, rfl⟩ trivial rfl hl.1 rfl (Nat.le_of_ble_eq_true rfl) dX6_way_2 hP hD hS (fun H locs hP hD hS => ?_)
  refine lv_if_eq (tgt := 21) hx hb dX6_way_5 (by decide) (fun c1 => ?_) (fun c1 => ?_)
  · skip
    have hsh := ite_t hsh c1
    refine lv_iconst (v := (0 : Int32)) hx hb dX6_way_21 (by decide) ?_
    have ho := Option.some.inj hsh
    rw [← ho] at hret
    exact hret _ _ _ _ nar0 dX6_way_22 hP hD hS
  · skip
    have hsh := ite_f hsh c1
    refine lv_aload_n hx hb dX6_way_8 rfl (lv_at hl 0 rfl) ?_
    refine lv_iload_n hx hb dX6_way_9 rfl (lv_at hl 2 rfl) ?_
    obtain ⟨o_10, he, hsh⟩ := bd hsh
    refine kVi (ci := 6) S hK hA (ctX6_isPlace l D cI cJ cZ q_this q_tape q_book q_rocks q_villages q_ways q_planner q_villages_rocks q_villages_people q_villages_badHoles q_villages_wellPipes q_villages_endAges q_villages_runAges v_rigPlace v_day v_villages_size a2 o_10 he) noE_cl (cwV 1 hts gX6_way_X6_isPlace rfl rfl rfl hdX6_isPlace ⟨Nat.le_of_ble_eq_true rfl, Nat.le_of_ble_eq_true rfl⟩) rfl 0 rfl [0, 1] [2, 3] [2, 3, 0, 1] (ws' := (wdX6_way cI cJ cZ q_this q_tape q_book q_rocks q_villages q_ways q_planner q_villages_rocks q_villages_people q_villages_badHoles q_villages_wellPipes q_villages_endAges q_villages_runAges q_ways_days v_rigPlace v_day v_villages_size w_ways_days)) ⟨rfl, rfl, rfl, rfl, rfl, rfl, rfl⟩ trivial rfl hl.1 rfl (Nat.le_of_ble_eq_true rfl) dX6_way_10 hP hD hS (fun H locs hP hD hS => ?_)
    refine lv_if_eq (tgt := 21) hx hb dX6_way_13 (by decide) (fun c1 => ?_) (fun c1 => ?_)
    · skip
      have hsh := ite_t hsh c1
      refine lv_iconst (v := (0 : Int32)) hx hb dX6_way_21 (by decide) ?_
      have ho := Option.some.inj hsh
      rw [← ho] at hret
      exact hret _ _ _ _ nar0 dX6_way_22 hP hD hS
    · skip
      have hsh := ite_f hsh c1
      refine lv_iload_n hx hb dX6_way_16 rfl (lv_at hl 1 rfl) ?_
      refine lv_iload_n hx hb dX6_way_17 rfl (lv_at hl 2 rfl) ?_
      refine lv_icmp_ne (tgt := 23) hx hb dX6_way_18 (by decide) (fun c1 => ?_) (fun c1 => ?_)
      · skip
        have hsh := ite_t hsh c1
        refine lv_iload_n hx hb dX6_way_23 rfl (lv_at hl 3 rfl) ?_
        refine lv_iconst (v := (-1 : Int32)) hx hb dX6_way_24 (by decide) ?_
        refine lv_icmp_eq (tgt := 41) hx hb dX6_way_25 (by decide) (fun c1 => ?_) (fun c1 => ?_)
        · skip
          have hsh := ite_t hsh c1
          exact Jj_41  H locs hP hD hS ls (lv_sub hl [0, 1, 2, 3] rfl) hsh
        · skip
          have hsh := ite_f hsh c1
          refine lv_iload_n hx hb dX6_way_28 rfl (lv_at hl 3 rfl) ?_
          refine lv_iconst (v := (1 : Int32)) hx hb dX6_way_29 (by decide) ?_
          refine lv_icmp_lt (tgt := 39) hx hb dX6_way_30 (by decide) (fun c1 => ?_) (fun c1 => ?_)
          · skip
            have hsh := ite_t hsh c1
            refine lv_iconst (v := (0 : Int32)) hx hb dX6_way_39 (by decide) ?_
            have ho := Option.some.inj hsh
            rw [← ho] at hret
            exact hret _ _ _ _ nar0 dX6_way_40 hP hD hS
          · skip
            have hsh := ite_f hsh c1
            refine lv_iload_n hx hb dX6_way_33 rfl (lv_at hl 3 rfl) ?_
            refine lv_bipush (v := (9 : Int32)) hx hb dX6_way_34 (by decide) ?_
            refine lv_icmp_le (tgt := 41) hx hb dX6_way_36 (by decide) (fun c1 => ?_) (fun c1 => ?_)
            · skip
              have hsh := ite_t hsh c1
              exact Jj_41  H locs hP hD hS ls (lv_sub hl [0, 1, 2, 3] rfl) hsh
            · skip
              have hsh := ite_f hsh c1
              refine lv_iconst (v := (0 : Int32)) hx hb dX6_way_39 (by decide) ?_
              have ho := Option.some.inj hsh
              rw [← ho] at hret
              exact hret _ _ _ _ nar0 dX6_way_40 hP hD hS
      · skip
        have hsh := ite_f hsh (fun h => h c1)
        refine lv_iconst (v := (0 : Int32)) hx hb dX6_way_21 (by decide) ?_
        have ho := Option.some.inj hsh
        rw [← ho] at hret
        exact hret _ _ _ _ nar0 dX6_way_22 hP hD hS

/-! DryWells.go -/
noncomputable def shX6_go (a1 : Int32) (v_rigPlace : Int32) (v_day : Int32) (v_villages_size : Int32) (w_ways_days : Nat → Int32) : Option (Int32 × Int32 × Int32) :=
  ((shX6_isPlace a1 v_villages_size).bind fun o_2 => (if o_2 = 0 then some ((-1 : Int32), v_rigPlace, v_day) else (if a1 = v_rigPlace then some ((-1 : Int32), v_rigPlace, v_day) else ((shX5_joins v_rigPlace a1 w_ways_days).bind fun o_25 => (if ¬ o_25 = 0 then ((shX5_days v_rigPlace a1 w_ways_days).bind fun o_46 => (if (v_day + o_46) ≤ (9999 : Int32) then some ((v_day + o_46), a1, (v_day + o_46)) else some ((-1 : Int32), v_rigPlace, v_day))) else some ((-1 : Int32), v_rigPlace, v_day))))))
def wdX6_go (cI cJ cZ : ClassId) (q_this q_tape q_book q_rocks q_villages q_ways q_planner q_villages_rocks q_villages_people q_villages_badHoles q_villages_wellPipes q_villages_endAges q_villages_runAges q_ways_days : Nat) (v_rigPlace : Int32) (v_day : Int32) (v_villages_size : Int32) (w_ways_days : Nat → Int32) : va_W := [(q_this, .inr (6, [.ref q_tape, .ref q_book, .ref q_rocks, .ref q_villages, .ref q_ways, .ref q_planner, .int v_rigPlace, .int v_day])), (q_villages, .inr (4, [.ref q_villages_rocks, .ref q_villages_people, .ref q_villages_badHoles, .ref q_villages_wellPipes, .ref q_villages_endAges, .ref q_villages_runAges, .int v_villages_size])), (q_ways, .inr (5, [.ref q_ways_days])), (q_ways_days, .inl (cI, 64, .inl w_ways_days))]
abbrev rmX6_go : Room := { frames := 2, cells := 0, slots := 0, locals := 42 }
theorem inX6_go_X6 : ∀ w ∈ u_ws RX6 TX6 8, w ∈ wsX6_go := fun _ h => List.mem_cons_of_mem _ (List.mem_append_left _ (List.mem_append_left _ (List.mem_append_right _ h)))
theorem inX6_go_X4 : ∀ w ∈ u_ws RX4 TX4 7, w ∈ wsX6_go := fun _ h => List.mem_cons_of_mem _ (List.mem_append_left _ (List.mem_append_right _ h))
theorem inX6_go_X5 : ∀ w ∈ u_ws RX5 TX5 1, w ∈ wsX6_go := fun _ h => List.mem_cons_of_mem _ (List.mem_append_right _ h)
theorem lkX6_go_51 : Cond.fieldLink RX6 51 (TX6 6).1 (TX6 6).2.1 (TX6 6).2.2.1 ∈ wsX6_go := List.mem_of_getElem? (i := 1) rfl
theorem lkX6_go_40 : Cond.fieldLink RX6 40 (TX6 4).1 (TX6 4).2.1 (TX6 4).2.2.1 ∈ wsX6_go := List.mem_of_getElem? (i := 2) rfl
theorem lkX6_go_55 : Cond.fieldLink RX6 55 (TX6 7).1 (TX6 7).2.1 (TX6 7).2.2.1 ∈ wsX6_go := List.mem_of_getElem? (i := 3) rfl
theorem hdX6_go : yX6_go.cls = RX6 ∧ yX6_go.cls ≠ "java/lang/invoke/MethodHandle" ∧ yX6_go.cls ≠ "java/lang/invoke/VarHandle" ∧ (parseMethodDescriptor yX6_go.desc).map (fun d => d.parameters.length) = some 1 := by decide +kernel
set_option maxHeartbeats 4000000 in
set_option maxRecDepth 100000 in
theorem ctX6_go (l : Launch) (D : va_G) (cI cJ cZ : ClassId) (q_this q_tape q_book q_rocks q_villages q_ways q_planner q_villages_rocks q_villages_people q_villages_badHoles q_villages_wellPipes q_villages_endAges q_villages_runAges q_ways_days : Nat) (v_rigPlace : Int32) (v_day : Int32) (v_villages_size : Int32) (w_ways_days : Nat → Int32) (a1 : Int32) (o : Int32 × Int32 × Int32) (hsh : shX6_go a1 v_rigPlace v_day v_villages_size w_ways_days = some o) : CtI l yX6_go wsX6_go rmX6_go D (tys3 cI cJ cZ) noE (wdX6_go cI cJ cZ q_this q_tape q_book q_rocks q_villages q_ways q_planner q_villages_rocks q_villages_people q_villages_badHoles q_villages_wellPipes q_villages_endAges q_villages_runAges q_ways_days v_rigPlace v_day v_villages_size w_ways_days) [.ref q_this, .int a1] o.1 (wdX6_go cI cJ cZ q_this q_tape q_book q_rocks q_villages q_ways q_planner q_villages_rocks q_villages_people q_villages_badHoles q_villages_wellPipes q_villages_endAges q_villages_runAges q_ways_days o.2.1 o.2.2 v_villages_size w_ways_days) := by
  refine ctI plX6 rfl (Nat.le_of_ble_eq_true rfl) ?_
  intro p e s m below meth c A Q S hK hA hE hret H locs hP hD hS ls hl
  replace S : CallFix p m c cX6_go 3 s _ wsX6_go RX6 := S
  generalize ([.ref q_this, .int a1] : List Value).toArray = args at S hret ⊢
  obtain ⟨hx, hb, hml, hown, hts⟩ := id S
  replace hl : lv_has ls 3 [(0, .ref q_this), (1, .int a1)] := hl
  unfold shX6_go at hsh
  refine lv_aload_n hx hb dX6_go_0 rfl (lv_at hl 0 rfl) ?_
  refine lv_iload_n hx hb dX6_go_1 rfl (lv_at hl 1 rfl) ?_
  obtain ⟨o_2, he, hsh⟩ := bd hsh
  refine kVi (ci := 6) S hK hA (ctX6_isPlace l D cI cJ cZ q_this q_tape q_book q_rocks q_villages q_ways q_planner q_villages_rocks q_villages_people q_villages_badHoles q_villages_wellPipes q_villages_endAges q_villages_runAges v_rigPlace v_day v_villages_size a1 o_2 he) noE_cl (cwV 1 hts gX6_go_X6_isPlace rfl rfl rfl hdX6_isPlace ⟨Nat.le_of_ble_eq_true rfl, Nat.le_of_ble_eq_true rfl⟩) rfl 0 rfl [0, 1] [2, 3] [2, 3, 0, 1] (ws' := (wdX6_go cI cJ cZ q_this q_tape q_book q_rocks q_villages q_ways q_planner q_villages_rocks q_villages_people q_villages_badHoles q_villages_wellPipes q_villages_endAges q_villages_runAges q_ways_days v_rigPlace v_day v_villages_size w_ways_days)) ⟨rfl, rfl, rfl, rfl, rfl, rfl, rfl⟩ trivial rfl hl.1 rfl (Nat.le_of_ble_eq_true rfl) dX6_go_2 hP hD hS (fun H locs hP hD hS => ?_)
  refine lv_if_eq (tgt := 31) hx hb dX6_go_5 (by decide) (fun c1 => ?_) (fun c1 => ?_)
  · skip
    have hsh := ite_t hsh c1
    refine lv_iconst (v := (-1 : Int32)) hx hb dX6_go_31 (by decide) ?_
    have ho := Option.some.inj hsh
    rw [← ho] at hret
    exact hret _ _ _ _ dX6_go_32 hP hD hS
  · skip
    have hsh := ite_f hsh c1
    refine lv_iload_n hx hb dX6_go_8 rfl (lv_at hl 1 rfl) ?_
    refine lv_aload_n hx hb dX6_go_9 rfl (lv_at hl 0 rfl) ?_
    refine kget (ci := 6) S hK hP rfl inX6_go_X6 0 rfl 6 (by decide) lkX6_go_51 rfl dX6_go_10 ?_
    refine lv_icmp_eq (tgt := 31) hx hb dX6_go_13 (by decide) (fun c1 => ?_) (fun c1 => ?_)
    · skip
      have hsh := ite_t hsh c1
      refine lv_iconst (v := (-1 : Int32)) hx hb dX6_go_31 (by decide) ?_
      have ho := Option.some.inj hsh
      rw [← ho] at hret
      exact hret _ _ _ _ dX6_go_32 hP hD hS
    · skip
      have hsh := ite_f hsh c1
      refine lv_aload_n hx hb dX6_go_16 rfl (lv_at hl 0 rfl) ?_
      refine kget (ci := 6) S hK hP rfl inX6_go_X6 0 rfl 4 (by decide) lkX6_go_40 rfl dX6_go_17 ?_
      refine lv_aload_n hx hb dX6_go_20 rfl (lv_at hl 0 rfl) ?_
      refine kget (ci := 6) S hK hP rfl inX6_go_X6 0 rfl 6 (by decide) lkX6_go_51 rfl dX6_go_21 ?_
      refine lv_iload_n hx hb dX6_go_24 rfl (lv_at hl 1 rfl) ?_
      obtain ⟨o_25, he, hsh⟩ := bd hsh
      refine kVi (ci := 5) S hK hA (ctX5_joins l D cI cJ cZ q_ways q_ways_days w_ways_days v_rigPlace a1 o_25 he) noE_cl (cwV 2 hts gX6_go_X5_joins rfl rfl rfl hdX5_joins ⟨Nat.le_of_ble_eq_true rfl, Nat.le_of_ble_eq_true rfl⟩) rfl 0 rfl [2, 3] [0, 1] [0, 1, 2, 3] (ws' := (wdX6_go cI cJ cZ q_this q_tape q_book q_rocks q_villages q_ways q_planner q_villages_rocks q_villages_people q_villages_badHoles q_villages_wellPipes q_villages_endAges q_villages_runAges q_ways_days v_rigPlace v_day v_villages_size w_ways_days)) ⟨rfl, rfl, rfl, rfl, rfl, rfl, rfl⟩ trivial rfl hl.1 rfl (Nat.le_of_ble_eq_true rfl) dX6_go_25 hP hD hS (fun H locs hP hD hS => ?_)
      refine lv_if_ne (tgt := 33) hx hb dX6_go_28 (by decide) (fun c1 => ?_) (fun c1 => ?_)
      · skip
        have hsh := ite_t hsh c1
        refine lv_aload_n hx hb dX6_go_33 rfl (lv_at hl 0 rfl) ?_
        refine kget (ci := 6) S hK hP rfl inX6_go_X6 0 rfl 7 (by decide) lkX6_go_55 rfl dX6_go_34 ?_
        refine lv_aload_n hx hb dX6_go_37 rfl (lv_at hl 0 rfl) ?_
        refine kget (ci := 6) S hK hP rfl inX6_go_X6 0 rfl 4 (by decide) lkX6_go_40 rfl dX6_go_38 ?_
        refine lv_aload_n hx hb dX6_go_41 rfl (lv_at hl 0 rfl) ?_
        refine kget (ci := 6) S hK hP rfl inX6_go_X6 0 rfl 6 (by decide) lkX6_go_51 rfl dX6_go_42 ?_
        refine lv_iload_n hx hb dX6_go_45 rfl (lv_at hl 1 rfl) ?_
        obtain ⟨o_46, he, hsh⟩ := bd hsh
        refine kVi (ci := 5) S hK hA (ctX5_days l D cI cJ cZ q_ways q_ways_days w_ways_days v_rigPlace a1 o_46 he) noE_cl (cwV 2 hts gX6_go_X5_days rfl rfl rfl hdX5_days ⟨Nat.le_of_ble_eq_true rfl, Nat.le_of_ble_eq_true rfl⟩) rfl 0 rfl [2, 3] [0, 1] [0, 1, 2, 3] (ws' := (wdX6_go cI cJ cZ q_this q_tape q_book q_rocks q_villages q_ways q_planner q_villages_rocks q_villages_people q_villages_badHoles q_villages_wellPipes q_villages_endAges q_villages_runAges q_ways_days v_rigPlace v_day v_villages_size w_ways_days)) ⟨rfl, rfl, rfl, rfl, rfl, rfl, rfl⟩ trivial rfl hl.1 rfl (Nat.le_of_ble_eq_true rfl) dX6_go_46 hP hD hS (fun H locs hP hD hS => ?_)
        refine lv_iadd hx hb dX6_go_49 ?_
        refine lv_istore_n (lv' := [(2, .int (v_day + o_46)), (0, .ref q_this), (1, .int a1)]) hx hb dX6_go_50 rfl hl (by decide) rfl (fun ls hl => ?_)
        refine lv_iload_n hx hb dX6_go_51 rfl (lv_at hl 0 rfl) ?_
        refine lv_sipush (v := (9999 : Int32)) hx hb dX6_go_52 (by decide) ?_
        refine lv_icmp_le (tgt := 60) hx hb dX6_go_55 (by decide) (fun c1 => ?_) (fun c1 => ?_)
        · skip
          have hsh := ite_t hsh c1
          refine lv_aload_n hx hb dX6_go_60 rfl (lv_at hl 1 rfl) ?_
          refine lv_iload_n hx hb dX6_go_61 rfl (lv_at hl 2 rfl) ?_
          refine kput (ci := 6) S hK hP hD hS rfl inX6_go_X6 tyX6_ok nmX6 0 rfl 6 (by decide) lkX6_go_51 rfl rfl rfl (Nat.le_of_ble_eq_true rfl) (ws' := (wdX6_go cI cJ cZ q_this q_tape q_book q_rocks q_villages q_ways q_planner q_villages_rocks q_villages_people q_villages_badHoles q_villages_wellPipes q_villages_endAges q_villages_runAges q_ways_days a1 v_day v_villages_size w_ways_days)) rfl dX6_go_62 (fun H locs hP hD hS => ?_)
          refine lv_aload_n hx hb dX6_go_65 rfl (lv_at hl 1 rfl) ?_
          refine lv_iload_n hx hb dX6_go_66 rfl (lv_at hl 0 rfl) ?_
          refine kput (ci := 6) S hK hP hD hS rfl inX6_go_X6 tyX6_ok nmX6 0 rfl 7 (by decide) lkX6_go_55 rfl rfl rfl (Nat.le_of_ble_eq_true rfl) (ws' := (wdX6_go cI cJ cZ q_this q_tape q_book q_rocks q_villages q_ways q_planner q_villages_rocks q_villages_people q_villages_badHoles q_villages_wellPipes q_villages_endAges q_villages_runAges q_ways_days a1 (v_day + o_46) v_villages_size w_ways_days)) rfl dX6_go_67 (fun H locs hP hD hS => ?_)
          refine lv_aload_n hx hb dX6_go_70 rfl (lv_at hl 1 rfl) ?_
          refine kget (ci := 6) S hK hP rfl inX6_go_X6 0 rfl 7 (by decide) lkX6_go_55 rfl dX6_go_71 ?_
          have ho := Option.some.inj hsh
          rw [← ho] at hret
          exact hret _ _ _ _ dX6_go_74 hP hD hS
        · skip
          have hsh := ite_f hsh c1
          refine lv_iconst (v := (-1 : Int32)) hx hb dX6_go_58 (by decide) ?_
          have ho := Option.some.inj hsh
          rw [← ho] at hret
          exact hret _ _ _ _ dX6_go_59 hP hD hS
      · skip
        have hsh := ite_f hsh (fun h => h c1)
        refine lv_iconst (v := (-1 : Int32)) hx hb dX6_go_31 (by decide) ?_
        have ho := Option.some.inj hsh
        rw [← ho] at hret
        exact hret _ _ _ _ dX6_go_32 hP hD hS

/-! DryWells.drill -/
noncomputable def shX6_drill_j_152 (a2 : Int32) (v_rigPlace : Int32) (w_villages_badHoles : Nat → Int32) (w_villages_wellPipes : Nat → Int32) (v_day_j_152 : Int32) (w_rocks_wet_j_152 : Nat → Int32) (w_rocks_barren_j_152 : Nat → Int32) (w_rocks_pipes_j_152 : Nat → Int32) : Option (Int32 × Int32 × (Nat → Int32) × (Nat → Int32) × (Nat → Int32) × (Nat → Int32) × (Nat → Int32)) :=
  ((shX4_addBadHole v_rigPlace w_villages_badHoles).bind fun o_160 => (if a2 = 0 then some ((0 : Int32), v_day_j_152, w_rocks_wet_j_152, w_rocks_barren_j_152, w_rocks_pipes_j_152, o_160, w_villages_wellPipes) else some ((2 : Int32), v_day_j_152, w_rocks_wet_j_152, w_rocks_barren_j_152, w_rocks_pipes_j_152, o_160, w_villages_wellPipes)))
noncomputable def shX6_drill_j_54 (a1 : Int32) (a2 : Int32) (a3 : Int32) (v_rigPlace : Int32) (v_day : Int32) (w_book_numbers : Nat → Int32) (w_rocks_wet : Nat → Int32) (w_rocks_barren : Nat → Int32) (w_rocks_pipes : Nat → Int32) (w_villages_rocks : Nat → Int32) (w_villages_badHoles : Nat → Int32) (w_villages_wellPipes : Nat → Int32) : Option (Int32 × Int32 × (Nat → Int32) × (Nat → Int32) × (Nat → Int32) × (Nat → Int32) × (Nat → Int32)) :=
  ((shX4_rockOf v_rigPlace w_villages_rocks).bind fun o_62 => ((shX0_rest w_book_numbers).bind fun o_77 => ((shX2_hasRoom o_62 a1 w_rocks_pipes).bind fun o_90 => (if o_90 = 0 then some ((-1 : Int32), v_day, w_rocks_wet, w_rocks_barren, w_rocks_pipes, w_villages_badHoles, w_villages_wellPipes) else (if ((v_day + a1) + o_77) ≤ (9999 : Int32) then ((shX2_addHole o_62 a1 a2 w_rocks_wet w_rocks_barren w_rocks_pipes).bind fun o_120 => (if a2 = 0 then (shX6_drill_j_152 a2 v_rigPlace w_villages_badHoles w_villages_wellPipes ((v_day + a1) + o_77) o_120.1 o_120.2.1 o_120.2.2) else ((shX0_salt w_book_numbers).bind fun o_132 => (if o_132 < a3 then (shX6_drill_j_152 a2 v_rigPlace w_villages_badHoles w_villages_wellPipes ((v_day + a1) + o_77) o_120.1 o_120.2.1 o_120.2.2) else ((shX4_makeWell v_rigPlace a1 w_villages_wellPipes).bind fun o_147 => some ((1 : Int32), ((v_day + a1) + o_77), o_120.1, o_120.2.1, o_120.2.2, w_villages_badHoles, o_147)))))) else some ((-1 : Int32), v_day, w_rocks_wet, w_rocks_barren, w_rocks_pipes, w_villages_badHoles, w_villages_wellPipes))))))
noncomputable def shX6_drill (a1 : Int32) (a2 : Int32) (a3 : Int32) (v_rigPlace : Int32) (v_day : Int32) (w_book_numbers : Nat → Int32) (w_rocks_wet : Nat → Int32) (w_rocks_barren : Nat → Int32) (w_rocks_pipes : Nat → Int32) (v_villages_size : Int32) (w_villages_rocks : Nat → Int32) (w_villages_badHoles : Nat → Int32) (w_villages_wellPipes : Nat → Int32) : Option (Int32 × Int32 × (Nat → Int32) × (Nat → Int32) × (Nat → Int32) × (Nat → Int32) × (Nat → Int32)) :=
  ((shX4_has v_rigPlace v_villages_size).bind fun o_8 => (if o_8 = 0 then some ((-1 : Int32), v_day, w_rocks_wet, w_rocks_barren, w_rocks_pipes, w_villages_badHoles, w_villages_wellPipes) else ((shX4_hasWell v_rigPlace w_villages_wellPipes).bind fun o_22 => (if ¬ o_22 = 0 then some ((-1 : Int32), v_day, w_rocks_wet, w_rocks_barren, w_rocks_pipes, w_villages_badHoles, w_villages_wellPipes) else ((shX2_isDepth a1).bind fun o_29 => (if ¬ o_29 = 0 then (if a2 = 0 then (shX6_drill_j_54 a1 a2 a3 v_rigPlace v_day w_book_numbers w_rocks_wet w_rocks_barren w_rocks_pipes w_villages_rocks w_villages_badHoles w_villages_wellPipes) else (if a3 < 0 then some ((-1 : Int32), v_day, w_rocks_wet, w_rocks_barren, w_rocks_pipes, w_villages_badHoles, w_villages_wellPipes) else (if a3 ≤ (999 : Int32) then (shX6_drill_j_54 a1 a2 a3 v_rigPlace v_day w_book_numbers w_rocks_wet w_rocks_barren w_rocks_pipes w_villages_rocks w_villages_badHoles w_villages_wellPipes) else some ((-1 : Int32), v_day, w_rocks_wet, w_rocks_barren, w_rocks_pipes, w_villages_badHoles, w_villages_wellPipes)))) else some ((-1 : Int32), v_day, w_rocks_wet, w_rocks_barren, w_rocks_pipes, w_villages_badHoles, w_villages_wellPipes)))))))
def wdX6_drill (cI cJ cZ : ClassId) (q_this q_tape q_book q_rocks q_villages q_ways q_planner q_book_numbers q_book_fresh q_book_told q_rocks_priors q_rocks_chances q_rocks_wet q_rocks_barren q_rocks_pipes q_villages_rocks q_villages_people q_villages_badHoles q_villages_wellPipes q_villages_endAges q_villages_runAges : Nat) (v_rigPlace : Int32) (v_day : Int32) (v_book_faultKind : Int32) (v_book_faultPlace : Int32) (v_book_at : Int32) (v_book_end : Int32) (v_rocks_size : Int32) (v_villages_size : Int32) (w_book_numbers : Nat → Int32) (w_rocks_wet : Nat → Int32) (w_rocks_barren : Nat → Int32) (w_rocks_pipes : Nat → Int32) (w_villages_rocks : Nat → Int32) (w_villages_badHoles : Nat → Int32) (w_villages_wellPipes : Nat → Int32) : va_W := [(q_this, .inr (6, [.ref q_tape, .ref q_book, .ref q_rocks, .ref q_villages, .ref q_ways, .ref q_planner, .int v_rigPlace, .int v_day])), (q_book, .inr (0, [.ref q_book_numbers, .ref q_book_fresh, .ref q_book_told, .int v_book_faultKind, .int v_book_faultPlace, .int v_book_at, .int v_book_end])), (q_book_numbers, .inl (cI, 3, .inl w_book_numbers)), (q_rocks, .inr (2, [.ref q_rocks_priors, .ref q_rocks_chances, .ref q_rocks_wet, .ref q_rocks_barren, .ref q_rocks_pipes, .int v_rocks_size])), (q_rocks_wet, .inl (cI, 16, .inl w_rocks_wet)), (q_rocks_barren, .inl (cI, 16, .inl w_rocks_barren)), (q_rocks_pipes, .inl (cI, 4, .inl w_rocks_pipes)), (q_villages, .inr (4, [.ref q_villages_rocks, .ref q_villages_people, .ref q_villages_badHoles, .ref q_villages_wellPipes, .ref q_villages_endAges, .ref q_villages_runAges, .int v_villages_size])), (q_villages_rocks, .inl (cI, 8, .inl w_villages_rocks)), (q_villages_badHoles, .inl (cI, 8, .inl w_villages_badHoles)), (q_villages_wellPipes, .inl (cI, 8, .inl w_villages_wellPipes))]
abbrev rmX6_drill : Room := { frames := 1, cells := 0, slots := 0, locals := 25 }
theorem inX6_drill_X6 : ∀ w ∈ u_ws RX6 TX6 8, w ∈ wsX6_drill := fun _ h => List.mem_cons_of_mem _ (List.mem_append_left _ (List.mem_append_left _ (List.mem_append_left _ (List.mem_append_right _ h))))
theorem inX6_drill_X0 : ∀ w ∈ u_ws RX0 TX0 7, w ∈ wsX6_drill := fun _ h => List.mem_cons_of_mem _ (List.mem_append_left _ (List.mem_append_right _ h))
theorem inX6_drill_X2 : ∀ w ∈ u_ws RX2 TX2 6, w ∈ wsX6_drill := fun _ h => List.mem_cons_of_mem _ (List.mem_append_right _ h)
theorem inX6_drill_X4 : ∀ w ∈ u_ws RX4 TX4 7, w ∈ wsX6_drill := fun _ h => List.mem_cons_of_mem _ (List.mem_append_left _ (List.mem_append_left _ (List.mem_append_right _ h)))
theorem lkX6_drill_33 : Cond.fieldLink RX6 33 (TX6 3).1 (TX6 3).2.1 (TX6 3).2.2.1 ∈ wsX6_drill := List.mem_of_getElem? (i := 1) rfl
theorem lkX6_drill_51 : Cond.fieldLink RX6 51 (TX6 6).1 (TX6 6).2.1 (TX6 6).2.2.1 ∈ wsX6_drill := List.mem_of_getElem? (i := 2) rfl
theorem lkX6_drill_55 : Cond.fieldLink RX6 55 (TX6 7).1 (TX6 7).2.1 (TX6 7).2.2.1 ∈ wsX6_drill := List.mem_of_getElem? (i := 3) rfl
theorem lkX6_drill_19 : Cond.fieldLink RX6 19 (TX6 1).1 (TX6 1).2.1 (TX6 1).2.2.1 ∈ wsX6_drill := List.mem_of_getElem? (i := 4) rfl
theorem lkX6_drill_26 : Cond.fieldLink RX6 26 (TX6 2).1 (TX6 2).2.1 (TX6 2).2.2.1 ∈ wsX6_drill := List.mem_of_getElem? (i := 5) rfl
theorem hdX6_drill : yX6_drill.cls = RX6 ∧ yX6_drill.cls ≠ "java/lang/invoke/MethodHandle" ∧ yX6_drill.cls ≠ "java/lang/invoke/VarHandle" ∧ (parseMethodDescriptor yX6_drill.desc).map (fun d => d.parameters.length) = some 3 := by decide +kernel
set_option maxHeartbeats 4000000 in
set_option maxRecDepth 100000 in
theorem ctX6_drill (l : Launch) (D : va_G) (cI cJ cZ : ClassId) (q_this q_tape q_book q_rocks q_villages q_ways q_planner q_book_numbers q_book_fresh q_book_told q_rocks_priors q_rocks_chances q_rocks_wet q_rocks_barren q_rocks_pipes q_villages_rocks q_villages_people q_villages_badHoles q_villages_wellPipes q_villages_endAges q_villages_runAges : Nat) (v_rigPlace : Int32) (v_day : Int32) (v_book_faultKind : Int32) (v_book_faultPlace : Int32) (v_book_at : Int32) (v_book_end : Int32) (v_rocks_size : Int32) (v_villages_size : Int32) (w_book_numbers : Nat → Int32) (w_rocks_wet : Nat → Int32) (w_rocks_barren : Nat → Int32) (w_rocks_pipes : Nat → Int32) (w_villages_rocks : Nat → Int32) (w_villages_badHoles : Nat → Int32) (w_villages_wellPipes : Nat → Int32) (a1 : Int32) (a2 : Int32) (a3 : Int32) (o : Int32 × Int32 × (Nat → Int32) × (Nat → Int32) × (Nat → Int32) × (Nat → Int32) × (Nat → Int32)) (hsh : shX6_drill a1 a2 a3 v_rigPlace v_day w_book_numbers w_rocks_wet w_rocks_barren w_rocks_pipes v_villages_size w_villages_rocks w_villages_badHoles w_villages_wellPipes = some o) : CtI l yX6_drill wsX6_drill rmX6_drill D (tys3 cI cJ cZ) noE (wdX6_drill cI cJ cZ q_this q_tape q_book q_rocks q_villages q_ways q_planner q_book_numbers q_book_fresh q_book_told q_rocks_priors q_rocks_chances q_rocks_wet q_rocks_barren q_rocks_pipes q_villages_rocks q_villages_people q_villages_badHoles q_villages_wellPipes q_villages_endAges q_villages_runAges v_rigPlace v_day v_book_faultKind v_book_faultPlace v_book_at v_book_end v_rocks_size v_villages_size w_book_numbers w_rocks_wet w_rocks_barren w_rocks_pipes w_villages_rocks w_villages_badHoles w_villages_wellPipes) [.ref q_this, .int a1, .int a2, .int a3] o.1 (wdX6_drill cI cJ cZ q_this q_tape q_book q_rocks q_villages q_ways q_planner q_book_numbers q_book_fresh q_book_told q_rocks_priors q_rocks_chances q_rocks_wet q_rocks_barren q_rocks_pipes q_villages_rocks q_villages_people q_villages_badHoles q_villages_wellPipes q_villages_endAges q_villages_runAges v_rigPlace o.2.1 v_book_faultKind v_book_faultPlace v_book_at v_book_end v_rocks_size v_villages_size w_book_numbers o.2.2.1 o.2.2.2.1 o.2.2.2.2.1 w_villages_rocks o.2.2.2.2.2.1 o.2.2.2.2.2.2) := by
  refine ctI plX6 rfl (Nat.le_of_ble_eq_true rfl) ?_
  intro p e s m below meth c A Q S hK hA hE hret H locs hP hD hS ls hl
  replace S : CallFix p m c cX6_drill 6 s _ wsX6_drill RX6 := S
  generalize ([.ref q_this, .int a1, .int a2, .int a3] : List Value).toArray = args at S hret ⊢
  obtain ⟨hx, hb, hml, hown, hts⟩ := id S
  replace hl : lv_has ls 6 [(0, .ref q_this), (1, .int a1), (2, .int a2), (3, .int a3)] := hl
  unfold shX6_drill at hsh
  have Jj_152 : ∀ (v_day_j_152 : Int32) (w_rocks_wet_j_152 : Nat → Int32) (w_rocks_barren_j_152 : Nat → Int32) (w_rocks_pipes_j_152 : Nat → Int32) (H : Heap) (locs : List Loc), va_P D vwCl (wdX6_drill cI cJ cZ q_this q_tape q_book q_rocks q_villages q_ways q_planner q_book_numbers q_book_fresh q_book_told q_rocks_priors q_rocks_chances q_rocks_wet q_rocks_barren q_rocks_pipes q_villages_rocks q_villages_people q_villages_badHoles q_villages_wellPipes q_villages_endAges q_villages_runAges v_rigPlace v_day_j_152 v_book_faultKind v_book_faultPlace v_book_at v_book_end v_rocks_size v_villages_size w_book_numbers w_rocks_wet_j_152 w_rocks_barren_j_152 w_rocks_pipes_j_152 w_villages_rocks w_villages_badHoles w_villages_wellPipes) H → va_D A (wdX6_drill cI cJ cZ q_this q_tape q_book q_rocks q_villages q_ways q_planner q_book_numbers q_book_fresh q_book_told q_rocks_priors q_rocks_chances q_rocks_wet q_rocks_barren q_rocks_pipes q_villages_rocks q_villages_people q_villages_badHoles q_villages_wellPipes q_villages_endAges q_villages_runAges v_rigPlace v_day_j_152 v_book_faultKind v_book_faultPlace v_book_at v_book_end v_rocks_size v_villages_size w_book_numbers w_rocks_wet_j_152 w_rocks_barren_j_152 w_rocks_pipes_j_152 w_villages_rocks w_villages_badHoles w_villages_wellPipes) → va_S A s.heap H locs → ∀ ls : Array Slot, lv_has ls 6 [(0, .ref q_this), (2, .int a2)] → shX6_drill_j_152 a2 v_rigPlace w_villages_badHoles w_villages_wellPipes v_day_j_152 w_rocks_wet_j_152 w_rocks_barren_j_152 w_rocks_pipes_j_152 = some o → W p l e rmX6_drill s m args below meth c H locs 0 0 Q (F0 m 152 ls []) := by
    intro v_day_j_152 w_rocks_wet_j_152 w_rocks_barren_j_152 w_rocks_pipes_j_152 H locs hP hD hS ls hl hsh
    unfold shX6_drill_j_152 at hsh
    refine lv_aload_n hx hb dX6_drill_152 rfl (lv_at hl 0 rfl) ?_
    refine kget (ci := 6) S hK hP rfl inX6_drill_X6 0 rfl 3 (by decide) lkX6_drill_33 rfl dX6_drill_153 ?_
    refine lv_aload_n hx hb dX6_drill_156 rfl (lv_at hl 0 rfl) ?_
    refine kget (ci := 6) S hK hP rfl inX6_drill_X6 0 rfl 6 (by decide) lkX6_drill_51 rfl dX6_drill_157 ?_
    obtain ⟨o_160, he, hsh⟩ := bd hsh
    refine kVv (ci := 4) S hK hA (ctX4_addBadHole l D cI cJ cZ q_villages q_villages_rocks q_villages_people q_villages_badHoles q_villages_wellPipes q_villages_endAges q_villages_runAges v_villages_size w_villages_badHoles v_rigPlace o_160 he) noE_cl (cwV 1 hts gX6_drill_X4_addBadHole rfl rfl rfl hdX4_addBadHole ⟨Nat.le_of_ble_eq_true rfl, Nat.le_of_ble_eq_true rfl⟩) rfl 0 rfl [7, 9] [0, 1, 2, 3, 4, 5, 6, 8, 10] [0, 1, 2, 3, 4, 5, 6, 9, 7, 10, 8] (ws' := (wdX6_drill cI cJ cZ q_this q_tape q_book q_rocks q_villages q_ways q_planner q_book_numbers q_book_fresh q_book_told q_rocks_priors q_rocks_chances q_rocks_wet q_rocks_barren q_rocks_pipes q_villages_rocks q_villages_people q_villages_badHoles q_villages_wellPipes q_villages_endAges q_villages_runAges v_rigPlace v_day_j_152 v_book_faultKind v_book_faultPlace v_book_at v_book_end v_rocks_size v_villages_size w_book_numbers w_rocks_wet_j_152 w_rocks_barren_j_152 w_rocks_pipes_j_152 w_villages_rocks o_160 w_villages_wellPipes)) ⟨rfl, rfl, rfl, rfl, rfl, rfl, rfl⟩ trivial rfl hl.1 rfl (Nat.le_of_ble_eq_true rfl) dX6_drill_160 hP hD hS (fun H locs hP hD hS => ?_)
    refine lv_iload_n hx hb dX6_drill_163 rfl (lv_at hl 1 rfl) ?_
    refine lv_if_eq (tgt := 171) hx hb dX6_drill_164 (by decide) (fun c1 => ?_) (fun c1 => ?_)
    · skip
      have hsh := ite_t hsh c1
      refine lv_iconst (v := (0 : Int32)) hx hb dX6_drill_171 (by decide) ?_
      have ho := Option.some.inj hsh
      rw [← ho] at hret
      exact hret _ _ _ _ dX6_drill_172 hP hD hS
    · skip
      have hsh := ite_f hsh c1
      refine lv_iconst (v := (2 : Int32)) hx hb dX6_drill_167 (by decide) ?_
      refine lv_goto (tgt := 172) hx hb dX6_drill_168 (by decide) ?_
      have ho := Option.some.inj hsh
      rw [← ho] at hret
      exact hret _ _ _ _ dX6_drill_172 hP hD hS
  have Jj_54 : ∀ (H : Heap) (locs : List Loc), va_P D vwCl (wdX6_drill cI cJ cZ q_this q_tape q_book q_rocks q_villages q_ways q_planner q_book_numbers q_book_fresh q_book_told q_rocks_priors q_rocks_chances q_rocks_wet q_rocks_barren q_rocks_pipes q_villages_rocks q_villages_people q_villages_badHoles q_villages_wellPipes q_villages_endAges q_villages_runAges v_rigPlace v_day v_book_faultKind v_book_faultPlace v_book_at v_book_end v_rocks_size v_villages_size w_book_numbers w_rocks_wet w_rocks_barren w_rocks_pipes w_villages_rocks w_villages_badHoles w_villages_wellPipes) H → va_D A (wdX6_drill cI cJ cZ q_this q_tape q_book q_rocks q_villages q_ways q_planner q_book_numbers q_book_fresh q_book_told q_rocks_priors q_rocks_chances q_rocks_wet q_rocks_barren q_rocks_pipes q_villages_rocks q_villages_people q_villages_badHoles q_villages_wellPipes q_villages_endAges q_villages_runAges v_rigPlace v_day v_book_faultKind v_book_faultPlace v_book_at v_book_end v_rocks_size v_villages_size w_book_numbers w_rocks_wet w_rocks_barren w_rocks_pipes w_villages_rocks w_villages_badHoles w_villages_wellPipes) → va_S A s.heap H locs → ∀ ls : Array Slot, lv_has ls 6 [(0, .ref q_this), (1, .int a1), (2, .int a2), (3, .int a3)] → shX6_drill_j_54 a1 a2 a3 v_rigPlace v_day w_book_numbers w_rocks_wet w_rocks_barren w_rocks_pipes w_villages_rocks w_villages_badHoles w_villages_wellPipes = some o → W p l e rmX6_drill s m args below meth c H locs 0 0 Q (F0 m 54 ls []) := by
    intro  H locs hP hD hS ls hl hsh
    unfold shX6_drill_j_54 at hsh
    refine lv_aload_n hx hb dX6_drill_54 rfl (lv_at hl 0 rfl) ?_
    refine kget (ci := 6) S hK hP rfl inX6_drill_X6 0 rfl 3 (by decide) lkX6_drill_33 rfl dX6_drill_55 ?_
    refine lv_aload_n hx hb dX6_drill_58 rfl (lv_at hl 0 rfl) ?_
    refine kget (ci := 6) S hK hP rfl inX6_drill_X6 0 rfl 6 (by decide) lkX6_drill_51 rfl dX6_drill_59 ?_
    obtain ⟨o_62, he, hsh⟩ := bd hsh
    refine kVi (ci := 4) S hK hA (ctX4_rockOf l D cI cJ cZ q_villages q_villages_rocks q_villages_people q_villages_badHoles q_villages_wellPipes q_villages_endAges q_villages_runAges v_villages_size w_villages_rocks v_rigPlace o_62 he) noE_cl (cwV 1 hts gX6_drill_X4_rockOf rfl rfl rfl hdX4_rockOf ⟨Nat.le_of_ble_eq_true rfl, Nat.le_of_ble_eq_true rfl⟩) rfl 0 rfl [7, 8] [0, 1, 2, 3, 4, 5, 6, 9, 10] [0, 1, 2, 3, 4, 5, 6, 9, 10, 7, 8] (ws' := (wdX6_drill cI cJ cZ q_this q_tape q_book q_rocks q_villages q_ways q_planner q_book_numbers q_book_fresh q_book_told q_rocks_priors q_rocks_chances q_rocks_wet q_rocks_barren q_rocks_pipes q_villages_rocks q_villages_people q_villages_badHoles q_villages_wellPipes q_villages_endAges q_villages_runAges v_rigPlace v_day v_book_faultKind v_book_faultPlace v_book_at v_book_end v_rocks_size v_villages_size w_book_numbers w_rocks_wet w_rocks_barren w_rocks_pipes w_villages_rocks w_villages_badHoles w_villages_wellPipes)) ⟨rfl, rfl, rfl, rfl, rfl, rfl, rfl⟩ trivial rfl hl.1 rfl (Nat.le_of_ble_eq_true rfl) dX6_drill_62 hP hD hS (fun H locs hP hD hS => ?_)
    refine lv_istore (lv' := [(4, .int o_62), (0, .ref q_this), (1, .int a1), (2, .int a2), (3, .int a3)]) hx hb dX6_drill_65 hl (by decide) rfl (fun ls hl => ?_)
    refine lv_aload_n hx hb dX6_drill_67 rfl (lv_at hl 1 rfl) ?_
    refine kget (ci := 6) S hK hP rfl inX6_drill_X6 0 rfl 7 (by decide) lkX6_drill_55 rfl dX6_drill_68 ?_
    refine lv_iload_n hx hb dX6_drill_71 rfl (lv_at hl 2 rfl) ?_
    refine lv_iadd hx hb dX6_drill_72 ?_
    refine lv_aload_n hx hb dX6_drill_73 rfl (lv_at hl 1 rfl) ?_
    refine kget (ci := 6) S hK hP rfl inX6_drill_X6 0 rfl 1 (by decide) lkX6_drill_19 rfl dX6_drill_74 ?_
    obtain ⟨o_77, he, hsh⟩ := bd hsh
    refine kVi (ci := 0) S hK hA (ctX0_rest l D cI cJ cZ q_book q_book_numbers q_book_fresh q_book_told v_book_faultKind v_book_faultPlace v_book_at v_book_end w_book_numbers o_77 he) noE_cl (cwV 0 hts gX6_drill_X0_rest rfl rfl rfl hdX0_rest ⟨Nat.le_of_ble_eq_true rfl, Nat.le_of_ble_eq_true rfl⟩) rfl 0 rfl [1, 2] [0, 3, 4, 5, 6, 7, 8, 9, 10] [0, 9, 10, 1, 2, 3, 4, 5, 6, 7, 8] (ws' := (wdX6_drill cI cJ cZ q_this q_tape q_book q_rocks q_villages q_ways q_planner q_book_numbers q_book_fresh q_book_told q_rocks_priors q_rocks_chances q_rocks_wet q_rocks_barren q_rocks_pipes q_villages_rocks q_villages_people q_villages_badHoles q_villages_wellPipes q_villages_endAges q_villages_runAges v_rigPlace v_day v_book_faultKind v_book_faultPlace v_book_at v_book_end v_rocks_size v_villages_size w_book_numbers w_rocks_wet w_rocks_barren w_rocks_pipes w_villages_rocks w_villages_badHoles w_villages_wellPipes)) ⟨rfl, rfl, rfl, rfl, rfl, rfl, rfl⟩ trivial rfl hl.1 rfl (Nat.le_of_ble_eq_true rfl) dX6_drill_77 hP hD hS (fun H locs hP hD hS => ?_)
    refine lv_iadd hx hb dX6_drill_80 ?_
    refine lv_istore (lv' := [(5, .int ((v_day + a1) + o_77)), (4, .int o_62), (0, .ref q_this), (1, .int a1), (2, .int a2), (3, .int a3)]) hx hb dX6_drill_81 hl (by decide) rfl (fun ls hl => ?_)
    refine lv_aload_n hx hb dX6_drill_83 rfl (lv_at hl 2 rfl) ?_
    refine kget (ci := 6) S hK hP rfl inX6_drill_X6 0 rfl 2 (by decide) lkX6_drill_26 rfl dX6_drill_84 ?_
    refine lv_iload hx hb dX6_drill_87 (lv_at hl 1 rfl) ?_
    refine lv_iload_n hx hb dX6_drill_89 rfl (lv_at hl 3 rfl) ?_
    obtain ⟨o_90, he, hsh⟩ := bd hsh
    refine kVi (ci := 2) S hK hA (ctX2_hasRoom l D cI cJ cZ q_rocks q_rocks_priors q_rocks_chances q_rocks_wet q_rocks_barren q_rocks_pipes v_rocks_size w_rocks_pipes o_62 a1 o_90 he) noE_cl (cwV 2 hts gX6_drill_X2_hasRoom rfl rfl rfl hdX2_hasRoom ⟨Nat.le_of_ble_eq_true rfl, Nat.le_of_ble_eq_true rfl⟩) rfl 0 rfl [3, 6] [0, 1, 2, 4, 5, 7, 8, 9, 10] [0, 1, 2, 9, 3, 4, 10, 5, 6, 7, 8] (ws' := (wdX6_drill cI cJ cZ q_this q_tape q_book q_rocks q_villages q_ways q_planner q_book_numbers q_book_fresh q_book_told q_rocks_priors q_rocks_chances q_rocks_wet q_rocks_barren q_rocks_pipes q_villages_rocks q_villages_people q_villages_badHoles q_villages_wellPipes q_villages_endAges q_villages_runAges v_rigPlace v_day v_book_faultKind v_book_faultPlace v_book_at v_book_end v_rocks_size v_villages_size w_book_numbers w_rocks_wet w_rocks_barren w_rocks_pipes w_villages_rocks w_villages_badHoles w_villages_wellPipes)) ⟨rfl, rfl, rfl, rfl, rfl, rfl, rfl⟩ trivial rfl hl.1 rfl (Nat.le_of_ble_eq_true rfl) dX6_drill_90 hP hD hS (fun H locs hP hD hS => ?_)
    refine lv_if_eq (tgt := 104) hx hb dX6_drill_93 (by decide) (fun c1 => ?_) (fun c1 => ?_)
    · skip
      have hsh := ite_t hsh c1
      refine lv_iconst (v := (-1 : Int32)) hx hb dX6_drill_104 (by decide) ?_
      have ho := Option.some.inj hsh
      rw [← ho] at hret
      exact hret _ _ _ _ dX6_drill_105 hP hD hS
    · skip
      have hsh := ite_f hsh c1
      refine lv_iload hx hb dX6_drill_96 (lv_at hl 0 rfl) ?_
      refine lv_sipush (v := (9999 : Int32)) hx hb dX6_drill_98 (by decide) ?_
      refine lv_icmp_le (tgt := 106) hx hb dX6_drill_101 (by decide) (fun c1 => ?_) (fun c1 => ?_)
      · skip
        have hsh := ite_t hsh c1
        refine lv_aload_n hx hb dX6_drill_106 rfl (lv_at hl 2 rfl) ?_
        refine lv_iload hx hb dX6_drill_107 (lv_at hl 0 rfl) ?_
        refine kput (ci := 6) S hK hP hD hS rfl inX6_drill_X6 tyX6_ok nmX6 0 rfl 7 (by decide) lkX6_drill_55 rfl rfl rfl (Nat.le_of_ble_eq_true rfl) (ws' := (wdX6_drill cI cJ cZ q_this q_tape q_book q_rocks q_villages q_ways q_planner q_book_numbers q_book_fresh q_book_told q_rocks_priors q_rocks_chances q_rocks_wet q_rocks_barren q_rocks_pipes q_villages_rocks q_villages_people q_villages_badHoles q_villages_wellPipes q_villages_endAges q_villages_runAges v_rigPlace ((v_day + a1) + o_77) v_book_faultKind v_book_faultPlace v_book_at v_book_end v_rocks_size v_villages_size w_book_numbers w_rocks_wet w_rocks_barren w_rocks_pipes w_villages_rocks w_villages_badHoles w_villages_wellPipes)) rfl dX6_drill_109 (fun H locs hP hD hS => ?_)
        refine lv_aload_n hx hb dX6_drill_112 rfl (lv_at hl 2 rfl) ?_
        refine kget (ci := 6) S hK hP rfl inX6_drill_X6 0 rfl 2 (by decide) lkX6_drill_26 rfl dX6_drill_113 ?_
        refine lv_iload hx hb dX6_drill_116 (lv_at hl 1 rfl) ?_
        refine lv_iload_n hx hb dX6_drill_118 rfl (lv_at hl 3 rfl) ?_
        refine lv_iload_n hx hb dX6_drill_119 rfl (lv_at hl 4 rfl) ?_
        obtain ⟨o_120, he, hsh⟩ := bd hsh
        refine kVv (ci := 2) S hK hA (ctX2_addHole l D cI cJ cZ q_rocks q_rocks_priors q_rocks_chances q_rocks_wet q_rocks_barren q_rocks_pipes v_rocks_size w_rocks_wet w_rocks_barren w_rocks_pipes o_62 a1 a2 o_120 he) noE_cl (cwV 3 hts gX6_drill_X2_addHole rfl rfl rfl hdX2_addHole ⟨Nat.le_of_ble_eq_true rfl, Nat.le_of_ble_eq_true rfl⟩) rfl 0 rfl [3, 4, 5, 6] [0, 1, 2, 7, 8, 9, 10] [0, 1, 2, 7, 8, 9, 10, 3, 4, 5, 6] (ws' := (wdX6_drill cI cJ cZ q_this q_tape q_book q_rocks q_villages q_ways q_planner q_book_numbers q_book_fresh q_book_told q_rocks_priors q_rocks_chances q_rocks_wet q_rocks_barren q_rocks_pipes q_villages_rocks q_villages_people q_villages_badHoles q_villages_wellPipes q_villages_endAges q_villages_runAges v_rigPlace ((v_day + a1) + o_77) v_book_faultKind v_book_faultPlace v_book_at v_book_end v_rocks_size v_villages_size w_book_numbers o_120.1 o_120.2.1 o_120.2.2 w_villages_rocks w_villages_badHoles w_villages_wellPipes)) ⟨rfl, rfl, rfl, rfl, rfl, rfl, rfl⟩ trivial rfl hl.1 rfl (Nat.le_of_ble_eq_true rfl) dX6_drill_120 hP hD hS (fun H locs hP hD hS => ?_)
        refine lv_iload_n hx hb dX6_drill_123 rfl (lv_at hl 4 rfl) ?_
        refine lv_if_eq (tgt := 152) hx hb dX6_drill_124 (by decide) (fun c1 => ?_) (fun c1 => ?_)
        · skip
          have hsh := ite_t hsh c1
          exact Jj_152 ((v_day + a1) + o_77) o_120.1 o_120.2.1 o_120.2.2 H locs hP hD hS ls (lv_sub hl [2, 4] rfl) hsh
        · skip
          have hsh := ite_f hsh c1
          refine lv_iload_n hx hb dX6_drill_127 rfl (lv_at hl 5 rfl) ?_
          refine lv_aload_n hx hb dX6_drill_128 rfl (lv_at hl 2 rfl) ?_
          refine kget (ci := 6) S hK hP rfl inX6_drill_X6 0 rfl 1 (by decide) lkX6_drill_19 rfl dX6_drill_129 ?_
          obtain ⟨o_132, he, hsh⟩ := bd hsh
          refine kVi (ci := 0) S hK hA (ctX0_salt l D cI cJ cZ q_book q_book_numbers q_book_fresh q_book_told v_book_faultKind v_book_faultPlace v_book_at v_book_end w_book_numbers o_132 he) noE_cl (cwV 0 hts gX6_drill_X0_salt rfl rfl rfl hdX0_salt ⟨Nat.le_of_ble_eq_true rfl, Nat.le_of_ble_eq_true rfl⟩) rfl 0 rfl [1, 2] [0, 3, 4, 5, 6, 7, 8, 9, 10] [0, 9, 10, 1, 2, 3, 4, 5, 6, 7, 8] (ws' := (wdX6_drill cI cJ cZ q_this q_tape q_book q_rocks q_villages q_ways q_planner q_book_numbers q_book_fresh q_book_told q_rocks_priors q_rocks_chances q_rocks_wet q_rocks_barren q_rocks_pipes q_villages_rocks q_villages_people q_villages_badHoles q_villages_wellPipes q_villages_endAges q_villages_runAges v_rigPlace ((v_day + a1) + o_77) v_book_faultKind v_book_faultPlace v_book_at v_book_end v_rocks_size v_villages_size w_book_numbers o_120.1 o_120.2.1 o_120.2.2 w_villages_rocks w_villages_badHoles w_villages_wellPipes)) ⟨rfl, rfl, rfl, rfl, rfl, rfl, rfl⟩ trivial rfl hl.1 rfl (Nat.le_of_ble_eq_true rfl) dX6_drill_132 hP hD hS (fun H locs hP hD hS => ?_)
          refine lv_icmp_gt (tgt := 152) hx hb dX6_drill_135 (by decide) (fun c1 => ?_) (fun c1 => ?_)
          · skip
            have hsh := ite_t hsh c1
            exact Jj_152 ((v_day + a1) + o_77) o_120.1 o_120.2.1 o_120.2.2 H locs hP hD hS ls (lv_sub hl [2, 4] rfl) hsh
          · skip
            have hsh := ite_f hsh c1
            refine lv_aload_n hx hb dX6_drill_138 rfl (lv_at hl 2 rfl) ?_
            refine kget (ci := 6) S hK hP rfl inX6_drill_X6 0 rfl 3 (by decide) lkX6_drill_33 rfl dX6_drill_139 ?_
            refine lv_aload_n hx hb dX6_drill_142 rfl (lv_at hl 2 rfl) ?_
            refine kget (ci := 6) S hK hP rfl inX6_drill_X6 0 rfl 6 (by decide) lkX6_drill_51 rfl dX6_drill_143 ?_
            refine lv_iload_n hx hb dX6_drill_146 rfl (lv_at hl 3 rfl) ?_
            obtain ⟨o_147, he, hsh⟩ := bd hsh
            refine kVv (ci := 4) S hK hA (ctX4_makeWell l D cI cJ cZ q_villages q_villages_rocks q_villages_people q_villages_badHoles q_villages_wellPipes q_villages_endAges q_villages_runAges v_villages_size w_villages_wellPipes v_rigPlace a1 o_147 he) noE_cl (cwV 2 hts gX6_drill_X4_makeWell rfl rfl rfl hdX4_makeWell ⟨Nat.le_of_ble_eq_true rfl, Nat.le_of_ble_eq_true rfl⟩) rfl 0 rfl [7, 10] [0, 1, 2, 3, 4, 5, 6, 8, 9] [0, 1, 2, 3, 4, 5, 6, 9, 7, 8, 10] (ws' := (wdX6_drill cI cJ cZ q_this q_tape q_book q_rocks q_villages q_ways q_planner q_book_numbers q_book_fresh q_book_told q_rocks_priors q_rocks_chances q_rocks_wet q_rocks_barren q_rocks_pipes q_villages_rocks q_villages_people q_villages_badHoles q_villages_wellPipes q_villages_endAges q_villages_runAges v_rigPlace ((v_day + a1) + o_77) v_book_faultKind v_book_faultPlace v_book_at v_book_end v_rocks_size v_villages_size w_book_numbers o_120.1 o_120.2.1 o_120.2.2 w_villages_rocks w_villages_badHoles o_147)) ⟨rfl, rfl, rfl, rfl, rfl, rfl, rfl⟩ trivial rfl hl.1 rfl (Nat.le_of_ble_eq_true rfl) dX6_drill_147 hP hD hS (fun H locs hP hD hS => ?_)
            refine lv_iconst (v := (1 : Int32)) hx hb dX6_drill_150 (by decide) ?_
            have ho := Option.some.inj hsh
            rw [← ho] at hret
            exact hret _ _ _ _ dX6_drill_151 hP hD hS
      · skip
        have hsh := ite_f hsh c1
        refine lv_iconst (v := (-1 : Int32)) hx hb dX6_drill_104 (by decide) ?_
        have ho := Option.some.inj hsh
        rw [← ho] at hret
        exact hret _ _ _ _ dX6_drill_105 hP hD hS
  refine lv_aload_n hx hb dX6_drill_0 rfl (lv_at hl 0 rfl) ?_
  refine kget (ci := 6) S hK hP rfl inX6_drill_X6 0 rfl 3 (by decide) lkX6_drill_33 rfl dX6_drill_1 ?_
  refine lv_aload_n hx hb dX6_drill_4 rfl (lv_at hl 0 rfl) ?_
  refine kget (ci := 6) S hK hP rfl inX6_drill_X6 0 rfl 6 (by decide) lkX6_drill_51 rfl dX6_drill_5 ?_
  obtain ⟨o_8, he, hsh⟩ := bd hsh
  refine kVi (ci := 4) S hK hA (ctX4_has l D cI cJ cZ q_villages q_villages_rocks q_villages_people q_villages_badHoles q_villages_wellPipes q_villages_endAges q_villages_runAges v_villages_size v_rigPlace o_8 he) noE_cl (cwV 1 hts gX6_drill_X4_has rfl rfl rfl hdX4_has ⟨Nat.le_of_ble_eq_true rfl, Nat.le_of_ble_eq_true rfl⟩) rfl 0 rfl [7] [0, 1, 2, 3, 4, 5, 6, 8, 9, 10] [0, 1, 2, 3, 4, 5, 6, 10, 7, 8, 9] (ws' := (wdX6_drill cI cJ cZ q_this q_tape q_book q_rocks q_villages q_ways q_planner q_book_numbers q_book_fresh q_book_told q_rocks_priors q_rocks_chances q_rocks_wet q_rocks_barren q_rocks_pipes q_villages_rocks q_villages_people q_villages_badHoles q_villages_wellPipes q_villages_endAges q_villages_runAges v_rigPlace v_day v_book_faultKind v_book_faultPlace v_book_at v_book_end v_rocks_size v_villages_size w_book_numbers w_rocks_wet w_rocks_barren w_rocks_pipes w_villages_rocks w_villages_badHoles w_villages_wellPipes)) ⟨rfl, rfl, rfl, rfl, rfl, rfl, rfl⟩ trivial rfl hl.1 rfl (Nat.le_of_ble_eq_true rfl) dX6_drill_8 hP hD hS (fun H locs hP hD hS => ?_)
  refine lv_if_eq (tgt := 35) hx hb dX6_drill_11 (by decide) (fun c1 => ?_) (fun c1 => ?_)
  · skip
    have hsh := ite_t hsh c1
    refine lv_iconst (v := (-1 : Int32)) hx hb dX6_drill_35 (by decide) ?_
    have ho := Option.some.inj hsh
    rw [← ho] at hret
    exact hret _ _ _ _ dX6_drill_36 hP hD hS
  · skip
    have hsh := ite_f hsh c1
    refine lv_aload_n hx hb dX6_drill_14 rfl (lv_at hl 0 rfl) ?_
    refine kget (ci := 6) S hK hP rfl inX6_drill_X6 0 rfl 3 (by decide) lkX6_drill_33 rfl dX6_drill_15 ?_
    refine lv_aload_n hx hb dX6_drill_18 rfl (lv_at hl 0 rfl) ?_
    refine kget (ci := 6) S hK hP rfl inX6_drill_X6 0 rfl 6 (by decide) lkX6_drill_51 rfl dX6_drill_19 ?_
    obtain ⟨o_22, he, hsh⟩ := bd hsh
    refine kVi (ci := 4) S hK hA (ctX4_hasWell l D cI cJ cZ q_villages q_villages_rocks q_villages_people q_villages_badHoles q_villages_wellPipes q_villages_endAges q_villages_runAges v_villages_size w_villages_wellPipes v_rigPlace o_22 he) noE_cl (cwV 1 hts gX6_drill_X4_hasWell rfl rfl rfl hdX4_hasWell ⟨Nat.le_of_ble_eq_true rfl, Nat.le_of_ble_eq_true rfl⟩) rfl 0 rfl [7, 10] [0, 1, 2, 3, 4, 5, 6, 8, 9] [0, 1, 2, 3, 4, 5, 6, 9, 7, 8, 10] (ws' := (wdX6_drill cI cJ cZ q_this q_tape q_book q_rocks q_villages q_ways q_planner q_book_numbers q_book_fresh q_book_told q_rocks_priors q_rocks_chances q_rocks_wet q_rocks_barren q_rocks_pipes q_villages_rocks q_villages_people q_villages_badHoles q_villages_wellPipes q_villages_endAges q_villages_runAges v_rigPlace v_day v_book_faultKind v_book_faultPlace v_book_at v_book_end v_rocks_size v_villages_size w_book_numbers w_rocks_wet w_rocks_barren w_rocks_pipes w_villages_rocks w_villages_badHoles w_villages_wellPipes)) ⟨rfl, rfl, rfl, rfl, rfl, rfl, rfl⟩ trivial rfl hl.1 rfl (Nat.le_of_ble_eq_true rfl) dX6_drill_22 hP hD hS (fun H locs hP hD hS => ?_)
    refine lv_if_ne (tgt := 35) hx hb dX6_drill_25 (by decide) (fun c1 => ?_) (fun c1 => ?_)
    · skip
      have hsh := ite_t hsh c1
      refine lv_iconst (v := (-1 : Int32)) hx hb dX6_drill_35 (by decide) ?_
      have ho := Option.some.inj hsh
      rw [← ho] at hret
      exact hret _ _ _ _ dX6_drill_36 hP hD hS
    · skip
      have hsh := ite_f hsh (fun h => h c1)
      refine lv_iload_n hx hb dX6_drill_28 rfl (lv_at hl 1 rfl) ?_
      obtain ⟨o_29, he, hsh⟩ := bd hsh
      refine kSi S hK hA (ctX2_isDepth l D cI cJ cZ a1 o_29 he) noE_cl (va_cwS 1 hts gX6_drill_X2_isDepth rfl rfl rfl hdX2_isDepth ⟨Nat.le_of_ble_eq_true rfl, Nat.le_of_ble_eq_true rfl⟩) [] [0, 1, 2, 3, 4, 5, 6, 7, 8, 9, 10] [0, 1, 2, 3, 4, 5, 6, 7, 8, 9, 10] (ws' := (wdX6_drill cI cJ cZ q_this q_tape q_book q_rocks q_villages q_ways q_planner q_book_numbers q_book_fresh q_book_told q_rocks_priors q_rocks_chances q_rocks_wet q_rocks_barren q_rocks_pipes q_villages_rocks q_villages_people q_villages_badHoles q_villages_wellPipes q_villages_endAges q_villages_runAges v_rigPlace v_day v_book_faultKind v_book_faultPlace v_book_at v_book_end v_rocks_size v_villages_size w_book_numbers w_rocks_wet w_rocks_barren w_rocks_pipes w_villages_rocks w_villages_badHoles w_villages_wellPipes)) ⟨rfl, rfl, rfl, rfl, rfl, rfl, rfl⟩ trivial rfl hl.1 rfl (Nat.le_of_ble_eq_true rfl) dX6_drill_29 hP hD hS (fun H locs hP hD hS => ?_)
      refine lv_if_ne (tgt := 37) hx hb dX6_drill_32 (by decide) (fun c1 => ?_) (fun c1 => ?_)
      · skip
        have hsh := ite_t hsh c1
        refine lv_iload_n hx hb dX6_drill_37 rfl (lv_at hl 2 rfl) ?_
        refine lv_if_eq (tgt := 54) hx hb dX6_drill_38 (by decide) (fun c1 => ?_) (fun c1 => ?_)
        · skip
          have hsh := ite_t hsh c1
          exact Jj_54  H locs hP hD hS ls (lv_sub hl [0, 1, 2, 3] rfl) hsh
        · skip
          have hsh := ite_f hsh c1
          refine lv_iload_n hx hb dX6_drill_41 rfl (lv_at hl 3 rfl) ?_
          refine lv_if_lt (tgt := 52) hx hb dX6_drill_42 (by decide) (fun c1 => ?_) (fun c1 => ?_)
          · skip
            have hsh := ite_t hsh c1
            refine lv_iconst (v := (-1 : Int32)) hx hb dX6_drill_52 (by decide) ?_
            have ho := Option.some.inj hsh
            rw [← ho] at hret
            exact hret _ _ _ _ dX6_drill_53 hP hD hS
          · skip
            have hsh := ite_f hsh c1
            refine lv_iload_n hx hb dX6_drill_45 rfl (lv_at hl 3 rfl) ?_
            refine lv_sipush (v := (999 : Int32)) hx hb dX6_drill_46 (by decide) ?_
            refine lv_icmp_le (tgt := 54) hx hb dX6_drill_49 (by decide) (fun c1 => ?_) (fun c1 => ?_)
            · skip
              have hsh := ite_t hsh c1
              exact Jj_54  H locs hP hD hS ls (lv_sub hl [0, 1, 2, 3] rfl) hsh
            · skip
              have hsh := ite_f hsh c1
              refine lv_iconst (v := (-1 : Int32)) hx hb dX6_drill_52 (by decide) ?_
              have ho := Option.some.inj hsh
              rw [← ho] at hret
              exact hret _ _ _ _ dX6_drill_53 hP hD hS
      · skip
        have hsh := ite_f hsh (fun h => h c1)
        refine lv_iconst (v := (-1 : Int32)) hx hb dX6_drill_35 (by decide) ?_
        have ho := Option.some.inj hsh
        rw [← ho] at hret
        exact hret _ _ _ _ dX6_drill_36 hP hD hS

/-! DryWells.commonDivisor -/
noncomputable def shX6_commonDivisor_j_45 (x4_j_45 : Int64) : Option (Int64) :=
  some x4_j_45
noncomputable def shX6_commonDivisor_L9 (x4_9 : Int64) (x6_9 : Int64) (x8_9 : Int32) : Option ((Int64 × Int64 × Int32) ⊕ ((Int64))) :=
  (if (200 : Int32) ≤ x8_9 then some (Sum.inr x4_9) else (if x6_9 = (0 : Int64) then some (Sum.inr x4_9) else ((gq x6_9).bind fun _ => some (Sum.inl (x6_9, (x4_9 - x4_9 / x6_9 * x6_9), (x8_9 + (1 : Int32)))))))
noncomputable def shX6_commonDivisor (a0 : Int64) (a2 : Int64) : Option (Int64) :=
  ((lp (fun s : Int64 × Int64 × Int32 => shX6_commonDivisor_L9 s.1 s.2.1 s.2.2) (a0, a2, (0 : Int32))).bind (fun p : Int64 => shX6_commonDivisor_j_45 p))
def wdX6_commonDivisor (cI cJ cZ : ClassId)   : va_W := []
abbrev rmX6_commonDivisor : Room := { frames := 0, cells := 0, slots := 0, locals := 0 }
theorem hdX6_commonDivisor : yX6_commonDivisor.cls ≠ "java/lang/invoke/MethodHandle" ∧ yX6_commonDivisor.cls ≠ "java/lang/invoke/VarHandle" ∧ (parseMethodDescriptor yX6_commonDivisor.desc).map (fun d => d.parameters.length) = some 2 := by decide +kernel
set_option maxHeartbeats 4000000 in
set_option maxRecDepth 100000 in
theorem ctX6_commonDivisor (l : Launch) (D : va_G) (cI cJ cZ : ClassId)  (a0 : Int64) (a2 : Int64) (o : Int64) (hsh : shX6_commonDivisor a0 a2 = some o) : CtL l yX6_commonDivisor wsX6_commonDivisor rmX6_commonDivisor D (tys3 cI cJ cZ) noE (wdX6_commonDivisor cI cJ cZ ) [.long a0, .long a2] o (wdX6_commonDivisor cI cJ cZ ) := by
  refine ctL plX6 rfl (Nat.le_of_ble_eq_true rfl) ?_
  intro p e s m below meth c A Q S hK hA hE hret H locs hP hD hS ls hl
  replace S : CallFix p m c cX6_commonDivisor 11 s _ wsX6_commonDivisor RX6 := S
  generalize ([.long a0, .long a2] : List Value).toArray = args at S hret ⊢
  obtain ⟨hx, hb, hml, hown, hts⟩ := id S
  replace hl : lv_has ls 11 [(0, .long a0), (2, .long a2)] := hl
  unfold shX6_commonDivisor at hsh
  have Jj_45 : ∀ (x4_j_45 : Int64) (H : Heap) (locs : List Loc), va_P D vwCl (wdX6_commonDivisor cI cJ cZ ) H → va_D A (wdX6_commonDivisor cI cJ cZ ) → va_S A s.heap H locs → ∀ ls : Array Slot, lv_has ls 11 [(4, .long x4_j_45)] → shX6_commonDivisor_j_45 x4_j_45 = some o → W p l e rmX6_commonDivisor s m args below meth c H locs 0 0 Q (F0 m 45 ls []) := by
    intro x4_j_45 H locs hP hD hS ls hl hsh
    unfold shX6_commonDivisor_j_45 at hsh
    refine lv_lload hx hb dX6_commonDivisor_45 (lv_at hl 0 rfl) ?_
    have ho := Option.some.inj hsh
    rw [← ho] at hret
    exact hret _ _ _ _ dX6_commonDivisor_47 hP hD hS
  refine lv_lload_n hx hb dX6_commonDivisor_0 rfl (lv_at hl 0 rfl) ?_
  refine lv_lstore (lv' := [(4, .long a0), (0, .long a0), (2, .long a2)]) hx hb dX6_commonDivisor_1 hl (by decide) rfl (fun ls hl => ?_)
  refine lv_lload_n hx hb dX6_commonDivisor_3 rfl (lv_at hl 2 rfl) ?_
  refine lv_lstore (lv' := [(6, .long a2), (4, .long a0), (0, .long a0), (2, .long a2)]) hx hb dX6_commonDivisor_4 hl (by decide) rfl (fun ls hl => ?_)
  refine lv_iconst (v := (0 : Int32)) hx hb dX6_commonDivisor_6 (by decide) ?_
  refine lv_istore (lv' := [(8, .int (0 : Int32)), (6, .long a2), (4, .long a0), (0, .long a0), (2, .long a2)]) hx hb dX6_commonDivisor_7 hl (by decide) rfl (fun ls hl => ?_)
  obtain ⟨r_9, hl_9, hk_9⟩ := bd hsh
  obtain ⟨n_9, hn_9⟩ := lp_iff.mp hl_9
  have L_9 : ∀ (n : Nat) (x4_9 : Int64) (x6_9 : Int64) (x8_9 : Int32) (H : Heap) (locs : List Loc), va_P D vwCl (wdX6_commonDivisor cI cJ cZ ) H → va_D A (wdX6_commonDivisor cI cJ cZ ) → va_S A s.heap H locs → ∀ ls : Array Slot, lv_has ls 11 [(4, .long x4_9), (6, .long x6_9), (8, .int x8_9)] → it (fun s : Int64 × Int64 × Int32 => shX6_commonDivisor_L9 s.1 s.2.1 s.2.2) n (x4_9, x6_9, x8_9) = some r_9 → W p l e rmX6_commonDivisor s m args below meth c H locs 0 0 Q (F0 m 9 ls []) := by
    intro n
    induction n with
    | zero => exact fun _ _ _ _ _ _ _ _ _ _ hi => it_0 hi
    | succ n ih_9 =>
      intro x4_9 x6_9 x8_9 H locs hP hD hS ls hl hi
      obtain ⟨b_9, hsh, hB1_9, hB2_9⟩ := it_b hi
      replace hsh : shX6_commonDivisor_L9 x4_9 x6_9 x8_9 = some b_9 := hsh
      unfold shX6_commonDivisor_L9 at hsh
      refine lv_iload hx hb dX6_commonDivisor_9 (lv_at hl 2 rfl) ?_
      refine lv_sipush (v := (200 : Int32)) hx hb dX6_commonDivisor_11 (by decide) ?_
      refine lv_icmp_ge (tgt := 45) hx hb dX6_commonDivisor_14 (by decide) (fun c1 => ?_) (fun c1 => ?_)
      · skip
        have hsh := ite_t hsh c1
        have he := hB2_9 _ hsh
        rw [← he] at hk_9
        exact Jj_45 x4_9 H locs hP hD hS ls (lv_sub hl [0] rfl) hk_9
      · skip
        have hsh := ite_f hsh c1
        refine lv_lload hx hb dX6_commonDivisor_17 (lv_at hl 1 rfl) ?_
        refine lv_lconst (v := (0 : Int64)) hx hb dX6_commonDivisor_19 (by decide) ?_
        refine W.lcmp hx hb dX6_commonDivisor_20 ?_
        refine lv_if_eq (tgt := 45) hx hb dX6_commonDivisor_21 (by decide) (fun c1 => ?_) (fun c1 => ?_)
        · have c1 := lc_eq.mp c1
          have hsh := ite_t hsh c1
          have he := hB2_9 _ hsh
          rw [← he] at hk_9
          exact Jj_45 x4_9 H locs hP hD hS ls (lv_sub hl [0] rfl) hk_9
        · have c1 := fun h => c1 (lc_eq.mpr h)
          have hsh := ite_f hsh c1
          refine lv_lload hx hb dX6_commonDivisor_24 (lv_at hl 0 rfl) ?_
          refine lv_lload hx hb dX6_commonDivisor_26 (lv_at hl 1 rfl) ?_
          obtain ⟨_, hg, hsh⟩ := bd hsh
          refine lv_lrem hx hb dX6_commonDivisor_28 (gq_ne hg) ?_
          refine lv_lstore (lv' := [(9, .long (x4_9 - x4_9 / x6_9 * x6_9)), (4, .long x4_9), (6, .long x6_9), (8, .int x8_9)]) hx hb dX6_commonDivisor_29 hl (by decide) rfl (fun ls hl => ?_)
          refine lv_lload hx hb dX6_commonDivisor_31 (lv_at hl 2 rfl) ?_
          refine lv_lstore (lv' := [(4, .long x6_9), (9, .long (x4_9 - x4_9 / x6_9 * x6_9)), (6, .long x6_9), (8, .int x8_9)]) hx hb dX6_commonDivisor_33 hl (by decide) rfl (fun ls hl => ?_)
          refine lv_lload hx hb dX6_commonDivisor_35 (lv_at hl 1 rfl) ?_
          refine lv_lstore (lv' := [(6, .long (x4_9 - x4_9 / x6_9 * x6_9)), (4, .long x6_9), (9, .long (x4_9 - x4_9 / x6_9 * x6_9)), (8, .int x8_9)]) hx hb dX6_commonDivisor_37 hl (by decide) rfl (fun ls hl => ?_)
          refine lv_iinc (v := (x8_9 + (1 : Int32))) (lv' := [(8, .int (x8_9 + (1 : Int32))), (6, .long (x4_9 - x4_9 / x6_9 * x6_9)), (4, .long x6_9), (9, .long (x4_9 - x4_9 / x6_9 * x6_9))]) hx hb dX6_commonDivisor_39 hl (k := 3) rfl (congrArg (fun z : Int32 => x8_9 + z) (by decide)) (by decide) rfl (fun ls hl => ?_)
          refine lv_goto (tgt := 9) hx hb dX6_commonDivisor_42 (by decide) ?_
          exact ih_9 x6_9 (x4_9 - x4_9 / x6_9 * x6_9) (x8_9 + (1 : Int32)) H locs hP hD hS ls (lv_sub hl [2, 1, 0] rfl) (hB1_9 _ hsh)
  exact L_9 n_9 a0 a2 (0 : Int32) H locs hP hD hS ls (lv_sub hl [2, 1, 0] rfl) hn_9

/-! DryWells.leastTerm -/
noncomputable def shX6_leastTerm (a0 : Int64) (a2 : Int64) (a4 : Int32) : Option (Int64) :=
  ((shX6_commonDivisor a0 a2).bind fun o_2 => (if ¬ o_2 = (0 : Int64) then (if ¬ a4 = 0 then ((gq o_2).bind fun _ => some (a2 / o_2)) else ((gq o_2).bind fun _ => some (a0 / o_2))) else some (-1 : Int64)))
def wdX6_leastTerm (cI cJ cZ : ClassId)   : va_W := []
abbrev rmX6_leastTerm : Room := { frames := 1, cells := 0, slots := 0, locals := 30 }
theorem hdX6_leastTerm : yX6_leastTerm.cls ≠ "java/lang/invoke/MethodHandle" ∧ yX6_leastTerm.cls ≠ "java/lang/invoke/VarHandle" ∧ (parseMethodDescriptor yX6_leastTerm.desc).map (fun d => d.parameters.length) = some 3 := by decide +kernel
set_option maxHeartbeats 4000000 in
set_option maxRecDepth 100000 in
theorem ctX6_leastTerm (l : Launch) (D : va_G) (cI cJ cZ : ClassId)  (a0 : Int64) (a2 : Int64) (a4 : Int32) (o : Int64) (hsh : shX6_leastTerm a0 a2 a4 = some o) : CtL l yX6_leastTerm wsX6_leastTerm rmX6_leastTerm D (tys3 cI cJ cZ) noE (wdX6_leastTerm cI cJ cZ ) [.long a0, .long a2, .int a4] o (wdX6_leastTerm cI cJ cZ ) := by
  refine ctL plX6 rfl (Nat.le_of_ble_eq_true rfl) ?_
  intro p e s m below meth c A Q S hK hA hE hret H locs hP hD hS ls hl
  replace S : CallFix p m c cX6_leastTerm 7 s _ wsX6_leastTerm RX6 := S
  generalize ([.long a0, .long a2, .int a4] : List Value).toArray = args at S hret ⊢
  obtain ⟨hx, hb, hml, hown, hts⟩ := id S
  replace hl : lv_has ls 7 [(0, .long a0), (2, .long a2), (4, .int a4)] := hl
  unfold shX6_leastTerm at hsh
  refine lv_lload_n hx hb dX6_leastTerm_0 rfl (lv_at hl 0 rfl) ?_
  refine lv_lload_n hx hb dX6_leastTerm_1 rfl (lv_at hl 1 rfl) ?_
  obtain ⟨o_2, he, hsh⟩ := bd hsh
  refine kSl S hK hA (ctX6_commonDivisor l D cI cJ cZ a0 a2 o_2 he) noE_cl (va_cwS 2 hts gX6_leastTerm_X6_commonDivisor rfl rfl rfl hdX6_commonDivisor ⟨Nat.le_of_ble_eq_true rfl, Nat.le_of_ble_eq_true rfl⟩) [] [] [] (ws' := (wdX6_leastTerm cI cJ cZ )) ⟨rfl, rfl, rfl, rfl, rfl, rfl, rfl⟩ trivial rfl hl.1 rfl (Nat.le_of_ble_eq_true rfl) dX6_leastTerm_2 hP hD hS (fun H locs hP hD hS => ?_)
  refine lv_lstore (lv' := [(5, .long o_2), (0, .long a0), (2, .long a2), (4, .int a4)]) hx hb dX6_leastTerm_5 hl (by decide) rfl (fun ls hl => ?_)
  refine lv_lload hx hb dX6_leastTerm_7 (lv_at hl 0 rfl) ?_
  refine lv_lconst (v := (0 : Int64)) hx hb dX6_leastTerm_9 (by decide) ?_
  refine W.lcmp hx hb dX6_leastTerm_10 ?_
  refine lv_if_ne (tgt := 18) hx hb dX6_leastTerm_11 (by decide) (fun c1 => ?_) (fun c1 => ?_)
  · have c1 := fun h => c1 (lc_eq.mpr h)
    have hsh := ite_t hsh c1
    refine lv_iload hx hb dX6_leastTerm_18 (lv_at hl 3 rfl) ?_
    refine lv_if_ne (tgt := 30) hx hb dX6_leastTerm_20 (by decide) (fun c1 => ?_) (fun c1 => ?_)
    · skip
      have hsh := ite_t hsh c1
      refine lv_lload_n hx hb dX6_leastTerm_30 rfl (lv_at hl 2 rfl) ?_
      refine lv_lload hx hb dX6_leastTerm_31 (lv_at hl 0 rfl) ?_
      obtain ⟨_, hg, hsh⟩ := bd hsh
      refine lv_ldiv hx hb dX6_leastTerm_33 (gq_ne hg) ?_
      have ho := Option.some.inj hsh
      rw [← ho] at hret
      exact hret _ _ _ _ dX6_leastTerm_34 hP hD hS
    · skip
      have hsh := ite_f hsh (fun h => h c1)
      refine lv_lload_n hx hb dX6_leastTerm_23 rfl (lv_at hl 1 rfl) ?_
      refine lv_lload hx hb dX6_leastTerm_24 (lv_at hl 0 rfl) ?_
      obtain ⟨_, hg, hsh⟩ := bd hsh
      refine lv_ldiv hx hb dX6_leastTerm_26 (gq_ne hg) ?_
      refine lv_goto (tgt := 34) hx hb dX6_leastTerm_27 (by decide) ?_
      have ho := Option.some.inj hsh
      rw [← ho] at hret
      exact hret _ _ _ _ dX6_leastTerm_34 hP hD hS
  · have c1 := lc_eq.mp c1
    have hsh := ite_f hsh (fun h => h c1)
    refine lv_ldc2 hx hb hown (v := (-1 : Int64)) (hts _ (List.mem_of_getElem? (i := 1) rfl)) dX6_leastTerm_14 ?_
    have ho := Option.some.inj hsh
    rw [← ho] at hret
    exact hret _ _ _ _ dX6_leastTerm_17 hP hD hS

/-! DryWells.likely -/
noncomputable def shX6_likely (a1 : Int32) (a2 : Int32) (a3 : Int32) (v_rocks_size : Int32) (w_rocks_priors : Nat → Int32) (w_rocks_chances : Nat → Int32) (w_rocks_wet : Nat → Int32) (w_rocks_barren : Nat → Int32) : Option (Int64) :=
  ((shX2_has a1 v_rocks_size).bind fun o_5 => (if o_5 = 0 then some (-1 : Int64) else ((shX2_isQuality a2).bind fun o_12 => (if o_12 = 0 then some (-1 : Int64) else (if a3 < 0 then some (-1 : Int64) else (if a3 ≤ (1 : Int32) then ((shX2_allWeights a1 w_rocks_priors w_rocks_chances w_rocks_wet w_rocks_barren).bind fun o_36 => (if ¬ o_36 = (0 : Int64) then ((shX2_weight a1 a2 w_rocks_priors w_rocks_chances w_rocks_wet w_rocks_barren).bind fun o_58 => ((shX6_leastTerm o_58 o_36 a3).bind fun o_64 => some o_64)) else some (-1 : Int64))) else some (-1 : Int64)))))))
def wdX6_likely (cI cJ cZ : ClassId) (q_this q_tape q_book q_rocks q_villages q_ways q_planner q_rocks_priors q_rocks_chances q_rocks_wet q_rocks_barren q_rocks_pipes : Nat) (v_rigPlace : Int32) (v_day : Int32) (v_rocks_size : Int32) (w_rocks_priors : Nat → Int32) (w_rocks_chances : Nat → Int32) (w_rocks_wet : Nat → Int32) (w_rocks_barren : Nat → Int32) : va_W := [(q_this, .inr (6, [.ref q_tape, .ref q_book, .ref q_rocks, .ref q_villages, .ref q_ways, .ref q_planner, .int v_rigPlace, .int v_day])), (q_rocks, .inr (2, [.ref q_rocks_priors, .ref q_rocks_chances, .ref q_rocks_wet, .ref q_rocks_barren, .ref q_rocks_pipes, .int v_rocks_size])), (q_rocks_priors, .inl (cI, 12, .inl w_rocks_priors)), (q_rocks_chances, .inl (cI, 12, .inl w_rocks_chances)), (q_rocks_wet, .inl (cI, 16, .inl w_rocks_wet)), (q_rocks_barren, .inl (cI, 16, .inl w_rocks_barren))]
abbrev rmX6_likely : Room := { frames := 2, cells := 0, slots := 0, locals := 56 }
theorem inX6_likely_X6 : ∀ w ∈ u_ws RX6 TX6 8, w ∈ wsX6_likely := fun _ h => List.mem_cons_of_mem _ (List.mem_append_left _ (List.mem_append_right _ h))
theorem inX6_likely_X2 : ∀ w ∈ u_ws RX2 TX2 6, w ∈ wsX6_likely := fun _ h => List.mem_cons_of_mem _ (List.mem_append_right _ h)
theorem lkX6_likely_26 : Cond.fieldLink RX6 26 (TX6 2).1 (TX6 2).2.1 (TX6 2).2.2.1 ∈ wsX6_likely := List.mem_of_getElem? (i := 1) rfl
theorem hdX6_likely : yX6_likely.cls = RX6 ∧ yX6_likely.cls ≠ "java/lang/invoke/MethodHandle" ∧ yX6_likely.cls ≠ "java/lang/invoke/VarHandle" ∧ (parseMethodDescriptor yX6_likely.desc).map (fun d => d.parameters.length) = some 3 := by decide +kernel
set_option maxHeartbeats 4000000 in
set_option maxRecDepth 100000 in
theorem ctX6_likely (l : Launch) (D : va_G) (cI cJ cZ : ClassId) (q_this q_tape q_book q_rocks q_villages q_ways q_planner q_rocks_priors q_rocks_chances q_rocks_wet q_rocks_barren q_rocks_pipes : Nat) (v_rigPlace : Int32) (v_day : Int32) (v_rocks_size : Int32) (w_rocks_priors : Nat → Int32) (w_rocks_chances : Nat → Int32) (w_rocks_wet : Nat → Int32) (w_rocks_barren : Nat → Int32) (a1 : Int32) (a2 : Int32) (a3 : Int32) (o : Int64) (hsh : shX6_likely a1 a2 a3 v_rocks_size w_rocks_priors w_rocks_chances w_rocks_wet w_rocks_barren = some o) : CtL l yX6_likely wsX6_likely rmX6_likely D (tys3 cI cJ cZ) noE (wdX6_likely cI cJ cZ q_this q_tape q_book q_rocks q_villages q_ways q_planner q_rocks_priors q_rocks_chances q_rocks_wet q_rocks_barren q_rocks_pipes v_rigPlace v_day v_rocks_size w_rocks_priors w_rocks_chances w_rocks_wet w_rocks_barren) [.ref q_this, .int a1, .int a2, .int a3] o (wdX6_likely cI cJ cZ q_this q_tape q_book q_rocks q_villages q_ways q_planner q_rocks_priors q_rocks_chances q_rocks_wet q_rocks_barren q_rocks_pipes v_rigPlace v_day v_rocks_size w_rocks_priors w_rocks_chances w_rocks_wet w_rocks_barren) := by
  refine ctL plX6 rfl (Nat.le_of_ble_eq_true rfl) ?_
  intro p e s m below meth c A Q S hK hA hE hret H locs hP hD hS ls hl
  replace S : CallFix p m c cX6_likely 6 s _ wsX6_likely RX6 := S
  generalize ([.ref q_this, .int a1, .int a2, .int a3] : List Value).toArray = args at S hret ⊢
  obtain ⟨hx, hb, hml, hown, hts⟩ := id S
  replace hl : lv_has ls 6 [(0, .ref q_this), (1, .int a1), (2, .int a2), (3, .int a3)] := hl
  unfold shX6_likely at hsh
  refine lv_aload_n hx hb dX6_likely_0 rfl (lv_at hl 0 rfl) ?_
  refine kget (ci := 6) S hK hP rfl inX6_likely_X6 0 rfl 2 (by decide) lkX6_likely_26 rfl dX6_likely_1 ?_
  refine lv_iload_n hx hb dX6_likely_4 rfl (lv_at hl 1 rfl) ?_
  obtain ⟨o_5, he, hsh⟩ := bd hsh
  refine kVi (ci := 2) S hK hA (ctX2_has l D cI cJ cZ q_rocks q_rocks_priors q_rocks_chances q_rocks_wet q_rocks_barren q_rocks_pipes v_rocks_size a1 o_5 he) noE_cl (cwV 1 hts gX6_likely_X2_has rfl rfl rfl hdX2_has ⟨Nat.le_of_ble_eq_true rfl, Nat.le_of_ble_eq_true rfl⟩) rfl 0 rfl [1] [0, 2, 3, 4, 5] [0, 5, 1, 2, 3, 4] (ws' := (wdX6_likely cI cJ cZ q_this q_tape q_book q_rocks q_villages q_ways q_planner q_rocks_priors q_rocks_chances q_rocks_wet q_rocks_barren q_rocks_pipes v_rigPlace v_day v_rocks_size w_rocks_priors w_rocks_chances w_rocks_wet w_rocks_barren)) ⟨rfl, rfl, rfl, rfl, rfl, rfl, rfl⟩ trivial rfl hl.1 rfl (Nat.le_of_ble_eq_true rfl) dX6_likely_5 hP hD hS (fun H locs hP hD hS => ?_)
  refine lv_if_eq (tgt := 27) hx hb dX6_likely_8 (by decide) (fun c1 => ?_) (fun c1 => ?_)
  · skip
    have hsh := ite_t hsh c1
    refine lv_ldc2 hx hb hown (v := (-1 : Int64)) (hts _ (List.mem_of_getElem? (i := 2) rfl)) dX6_likely_27 ?_
    have ho := Option.some.inj hsh
    rw [← ho] at hret
    exact hret _ _ _ _ dX6_likely_30 hP hD hS
  · skip
    have hsh := ite_f hsh c1
    refine lv_iload_n hx hb dX6_likely_11 rfl (lv_at hl 2 rfl) ?_
    obtain ⟨o_12, he, hsh⟩ := bd hsh
    refine kSi S hK hA (ctX2_isQuality l D cI cJ cZ a2 o_12 he) noE_cl (va_cwS 1 hts gX6_likely_X2_isQuality rfl rfl rfl hdX2_isQuality ⟨Nat.le_of_ble_eq_true rfl, Nat.le_of_ble_eq_true rfl⟩) [] [0, 1, 2, 3, 4, 5] [0, 1, 2, 3, 4, 5] (ws' := (wdX6_likely cI cJ cZ q_this q_tape q_book q_rocks q_villages q_ways q_planner q_rocks_priors q_rocks_chances q_rocks_wet q_rocks_barren q_rocks_pipes v_rigPlace v_day v_rocks_size w_rocks_priors w_rocks_chances w_rocks_wet w_rocks_barren)) ⟨rfl, rfl, rfl, rfl, rfl, rfl, rfl⟩ trivial rfl hl.1 rfl (Nat.le_of_ble_eq_true rfl) dX6_likely_12 hP hD hS (fun H locs hP hD hS => ?_)
    refine lv_if_eq (tgt := 27) hx hb dX6_likely_15 (by decide) (fun c1 => ?_) (fun c1 => ?_)
    · skip
      have hsh := ite_t hsh c1
      refine lv_ldc2 hx hb hown (v := (-1 : Int64)) (hts _ (List.mem_of_getElem? (i := 2) rfl)) dX6_likely_27 ?_
      have ho := Option.some.inj hsh
      rw [← ho] at hret
      exact hret _ _ _ _ dX6_likely_30 hP hD hS
    · skip
      have hsh := ite_f hsh c1
      refine lv_iload_n hx hb dX6_likely_18 rfl (lv_at hl 3 rfl) ?_
      refine lv_if_lt (tgt := 27) hx hb dX6_likely_19 (by decide) (fun c1 => ?_) (fun c1 => ?_)
      · skip
        have hsh := ite_t hsh c1
        refine lv_ldc2 hx hb hown (v := (-1 : Int64)) (hts _ (List.mem_of_getElem? (i := 2) rfl)) dX6_likely_27 ?_
        have ho := Option.some.inj hsh
        rw [← ho] at hret
        exact hret _ _ _ _ dX6_likely_30 hP hD hS
      · skip
        have hsh := ite_f hsh c1
        refine lv_iload_n hx hb dX6_likely_22 rfl (lv_at hl 3 rfl) ?_
        refine lv_iconst (v := (1 : Int32)) hx hb dX6_likely_23 (by decide) ?_
        refine lv_icmp_le (tgt := 31) hx hb dX6_likely_24 (by decide) (fun c1 => ?_) (fun c1 => ?_)
        · skip
          have hsh := ite_t hsh c1
          refine lv_aload_n hx hb dX6_likely_31 rfl (lv_at hl 0 rfl) ?_
          refine kget (ci := 6) S hK hP rfl inX6_likely_X6 0 rfl 2 (by decide) lkX6_likely_26 rfl dX6_likely_32 ?_
          refine lv_iload_n hx hb dX6_likely_35 rfl (lv_at hl 1 rfl) ?_
          obtain ⟨o_36, he, hsh⟩ := bd hsh
          refine kVl (ci := 2) S hK hA (ctX2_allWeights l D cI cJ cZ q_rocks q_rocks_priors q_rocks_chances q_rocks_wet q_rocks_barren q_rocks_pipes v_rocks_size w_rocks_priors w_rocks_chances w_rocks_wet w_rocks_barren a1 o_36 he) noE_cl (cwV 1 hts gX6_likely_X2_allWeights rfl rfl rfl hdX2_allWeights ⟨Nat.le_of_ble_eq_true rfl, Nat.le_of_ble_eq_true rfl⟩) rfl 0 rfl [1, 2, 3, 4, 5] [0] [0, 1, 2, 3, 4, 5] (ws' := (wdX6_likely cI cJ cZ q_this q_tape q_book q_rocks q_villages q_ways q_planner q_rocks_priors q_rocks_chances q_rocks_wet q_rocks_barren q_rocks_pipes v_rigPlace v_day v_rocks_size w_rocks_priors w_rocks_chances w_rocks_wet w_rocks_barren)) ⟨rfl, rfl, rfl, rfl, rfl, rfl, rfl⟩ trivial rfl hl.1 rfl (Nat.le_of_ble_eq_true rfl) dX6_likely_36 hP hD hS (fun H locs hP hD hS => ?_)
          refine lv_lstore (lv' := [(4, .long o_36), (0, .ref q_this), (1, .int a1), (2, .int a2), (3, .int a3)]) hx hb dX6_likely_39 hl (by decide) rfl (fun ls hl => ?_)
          refine lv_lload hx hb dX6_likely_41 (lv_at hl 0 rfl) ?_
          refine lv_lconst (v := (0 : Int64)) hx hb dX6_likely_43 (by decide) ?_
          refine W.lcmp hx hb dX6_likely_44 ?_
          refine lv_if_ne (tgt := 52) hx hb dX6_likely_45 (by decide) (fun c1 => ?_) (fun c1 => ?_)
          · have c1 := fun h => c1 (lc_eq.mpr h)
            have hsh := ite_t hsh c1
            refine lv_aload_n hx hb dX6_likely_52 rfl (lv_at hl 1 rfl) ?_
            refine kget (ci := 6) S hK hP rfl inX6_likely_X6 0 rfl 2 (by decide) lkX6_likely_26 rfl dX6_likely_53 ?_
            refine lv_iload_n hx hb dX6_likely_56 rfl (lv_at hl 2 rfl) ?_
            refine lv_iload_n hx hb dX6_likely_57 rfl (lv_at hl 3 rfl) ?_
            obtain ⟨o_58, he, hsh⟩ := bd hsh
            refine kVl (ci := 2) S hK hA (ctX2_weight l D cI cJ cZ q_rocks q_rocks_priors q_rocks_chances q_rocks_wet q_rocks_barren q_rocks_pipes v_rocks_size w_rocks_priors w_rocks_chances w_rocks_wet w_rocks_barren a1 a2 o_58 he) noE_cl (cwV 2 hts gX6_likely_X2_weight rfl rfl rfl hdX2_weight ⟨Nat.le_of_ble_eq_true rfl, Nat.le_of_ble_eq_true rfl⟩) rfl 0 rfl [1, 2, 3, 4, 5] [0] [0, 1, 2, 3, 4, 5] (ws' := (wdX6_likely cI cJ cZ q_this q_tape q_book q_rocks q_villages q_ways q_planner q_rocks_priors q_rocks_chances q_rocks_wet q_rocks_barren q_rocks_pipes v_rigPlace v_day v_rocks_size w_rocks_priors w_rocks_chances w_rocks_wet w_rocks_barren)) ⟨rfl, rfl, rfl, rfl, rfl, rfl, rfl⟩ trivial rfl hl.1 rfl (Nat.le_of_ble_eq_true rfl) dX6_likely_58 hP hD hS (fun H locs hP hD hS => ?_)
            refine lv_lload hx hb dX6_likely_61 (lv_at hl 0 rfl) ?_
            refine lv_iload_n hx hb dX6_likely_63 rfl (lv_at hl 4 rfl) ?_
            obtain ⟨o_64, he, hsh⟩ := bd hsh
            refine kSl S hK hA (ctX6_leastTerm l D cI cJ cZ o_58 o_36 a3 o_64 he) noE_cl (va_cwS 3 hts gX6_likely_X6_leastTerm rfl rfl rfl hdX6_leastTerm ⟨Nat.le_of_ble_eq_true rfl, Nat.le_of_ble_eq_true rfl⟩) [] [0, 1, 2, 3, 4, 5] [0, 1, 2, 3, 4, 5] (ws' := (wdX6_likely cI cJ cZ q_this q_tape q_book q_rocks q_villages q_ways q_planner q_rocks_priors q_rocks_chances q_rocks_wet q_rocks_barren q_rocks_pipes v_rigPlace v_day v_rocks_size w_rocks_priors w_rocks_chances w_rocks_wet w_rocks_barren)) ⟨rfl, rfl, rfl, rfl, rfl, rfl, rfl⟩ trivial rfl hl.1 rfl (Nat.le_of_ble_eq_true rfl) dX6_likely_64 hP hD hS (fun H locs hP hD hS => ?_)
            have ho := Option.some.inj hsh
            rw [← ho] at hret
            exact hret _ _ _ _ dX6_likely_67 hP hD hS
          · have c1 := lc_eq.mp c1
            have hsh := ite_f hsh (fun h => h c1)
            refine lv_ldc2 hx hb hown (v := (-1 : Int64)) (hts _ (List.mem_of_getElem? (i := 2) rfl)) dX6_likely_48 ?_
            have ho := Option.some.inj hsh
            rw [← ho] at hret
            exact hret _ _ _ _ dX6_likely_51 hP hD hS
        · skip
          have hsh := ite_f hsh c1
          refine lv_ldc2 hx hb hown (v := (-1 : Int64)) (hts _ (List.mem_of_getElem? (i := 2) rfl)) dX6_likely_27 ?_
          have ho := Option.some.inj hsh
          rw [← ho] at hret
          exact hret _ _ _ _ dX6_likely_30 hP hD hS

/-! DryWells.hope -/
noncomputable def shX6_hope (a1 : Int32) (a2 : Int32) (w_rocks_priors : Nat → Int32) (w_rocks_chances : Nat → Int32) (w_rocks_wet : Nat → Int32) (w_rocks_barren : Nat → Int32) (v_villages_size : Int32) (w_villages_rocks : Nat → Int32) : Option (Int32) :=
  ((shX4_has a1 v_villages_size).bind fun o_5 => (if o_5 = 0 then some (-1 : Int32) else ((shX2_isDepth a2).bind fun o_12 => (if ¬ o_12 = 0 then ((shX4_rockOf a1 w_villages_rocks).bind fun o_29 => ((shX2_hopeOn o_29 a2 w_rocks_priors w_rocks_chances w_rocks_wet w_rocks_barren).bind fun o_33 => some o_33)) else some (-1 : Int32)))))
def wdX6_hope (cI cJ cZ : ClassId) (q_this q_tape q_book q_rocks q_villages q_ways q_planner q_rocks_priors q_rocks_chances q_rocks_wet q_rocks_barren q_rocks_pipes q_villages_rocks q_villages_people q_villages_badHoles q_villages_wellPipes q_villages_endAges q_villages_runAges : Nat) (v_rigPlace : Int32) (v_day : Int32) (v_rocks_size : Int32) (v_villages_size : Int32) (w_rocks_priors : Nat → Int32) (w_rocks_chances : Nat → Int32) (w_rocks_wet : Nat → Int32) (w_rocks_barren : Nat → Int32) (w_villages_rocks : Nat → Int32) : va_W := [(q_this, .inr (6, [.ref q_tape, .ref q_book, .ref q_rocks, .ref q_villages, .ref q_ways, .ref q_planner, .int v_rigPlace, .int v_day])), (q_rocks, .inr (2, [.ref q_rocks_priors, .ref q_rocks_chances, .ref q_rocks_wet, .ref q_rocks_barren, .ref q_rocks_pipes, .int v_rocks_size])), (q_rocks_priors, .inl (cI, 12, .inl w_rocks_priors)), (q_rocks_chances, .inl (cI, 12, .inl w_rocks_chances)), (q_rocks_wet, .inl (cI, 16, .inl w_rocks_wet)), (q_rocks_barren, .inl (cI, 16, .inl w_rocks_barren)), (q_villages, .inr (4, [.ref q_villages_rocks, .ref q_villages_people, .ref q_villages_badHoles, .ref q_villages_wellPipes, .ref q_villages_endAges, .ref q_villages_runAges, .int v_villages_size])), (q_villages_rocks, .inl (cI, 8, .inl w_villages_rocks))]
abbrev rmX6_hope : Room := { frames := 3, cells := 0, slots := 0, locals := 79 }
theorem inX6_hope_X6 : ∀ w ∈ u_ws RX6 TX6 8, w ∈ wsX6_hope := fun _ h => List.mem_cons_of_mem _ (List.mem_append_left _ (List.mem_append_left _ (List.mem_append_right _ h)))
theorem inX6_hope_X2 : ∀ w ∈ u_ws RX2 TX2 6, w ∈ wsX6_hope := fun _ h => List.mem_cons_of_mem _ (List.mem_append_right _ h)
theorem inX6_hope_X4 : ∀ w ∈ u_ws RX4 TX4 7, w ∈ wsX6_hope := fun _ h => List.mem_cons_of_mem _ (List.mem_append_left _ (List.mem_append_right _ h))
theorem lkX6_hope_33 : Cond.fieldLink RX6 33 (TX6 3).1 (TX6 3).2.1 (TX6 3).2.2.1 ∈ wsX6_hope := List.mem_of_getElem? (i := 1) rfl
theorem lkX6_hope_26 : Cond.fieldLink RX6 26 (TX6 2).1 (TX6 2).2.1 (TX6 2).2.2.1 ∈ wsX6_hope := List.mem_of_getElem? (i := 2) rfl
theorem hdX6_hope : yX6_hope.cls = RX6 ∧ yX6_hope.cls ≠ "java/lang/invoke/MethodHandle" ∧ yX6_hope.cls ≠ "java/lang/invoke/VarHandle" ∧ (parseMethodDescriptor yX6_hope.desc).map (fun d => d.parameters.length) = some 2 := by decide +kernel
set_option maxHeartbeats 4000000 in
set_option maxRecDepth 100000 in
theorem ctX6_hope (l : Launch) (D : va_G) (cI cJ cZ : ClassId) (q_this q_tape q_book q_rocks q_villages q_ways q_planner q_rocks_priors q_rocks_chances q_rocks_wet q_rocks_barren q_rocks_pipes q_villages_rocks q_villages_people q_villages_badHoles q_villages_wellPipes q_villages_endAges q_villages_runAges : Nat) (v_rigPlace : Int32) (v_day : Int32) (v_rocks_size : Int32) (v_villages_size : Int32) (w_rocks_priors : Nat → Int32) (w_rocks_chances : Nat → Int32) (w_rocks_wet : Nat → Int32) (w_rocks_barren : Nat → Int32) (w_villages_rocks : Nat → Int32) (a1 : Int32) (a2 : Int32) (o : Int32) (hsh : shX6_hope a1 a2 w_rocks_priors w_rocks_chances w_rocks_wet w_rocks_barren v_villages_size w_villages_rocks = some o) : CtI l yX6_hope wsX6_hope rmX6_hope D (tys3 cI cJ cZ) noE (wdX6_hope cI cJ cZ q_this q_tape q_book q_rocks q_villages q_ways q_planner q_rocks_priors q_rocks_chances q_rocks_wet q_rocks_barren q_rocks_pipes q_villages_rocks q_villages_people q_villages_badHoles q_villages_wellPipes q_villages_endAges q_villages_runAges v_rigPlace v_day v_rocks_size v_villages_size w_rocks_priors w_rocks_chances w_rocks_wet w_rocks_barren w_villages_rocks) [.ref q_this, .int a1, .int a2] o (wdX6_hope cI cJ cZ q_this q_tape q_book q_rocks q_villages q_ways q_planner q_rocks_priors q_rocks_chances q_rocks_wet q_rocks_barren q_rocks_pipes q_villages_rocks q_villages_people q_villages_badHoles q_villages_wellPipes q_villages_endAges q_villages_runAges v_rigPlace v_day v_rocks_size v_villages_size w_rocks_priors w_rocks_chances w_rocks_wet w_rocks_barren w_villages_rocks) := by
  refine ctI plX6 rfl (Nat.le_of_ble_eq_true rfl) ?_
  intro p e s m below meth c A Q S hK hA hE hret H locs hP hD hS ls hl
  replace S : CallFix p m c cX6_hope 3 s _ wsX6_hope RX6 := S
  generalize ([.ref q_this, .int a1, .int a2] : List Value).toArray = args at S hret ⊢
  obtain ⟨hx, hb, hml, hown, hts⟩ := id S
  replace hl : lv_has ls 3 [(0, .ref q_this), (1, .int a1), (2, .int a2)] := hl
  unfold shX6_hope at hsh
  refine lv_aload_n hx hb dX6_hope_0 rfl (lv_at hl 0 rfl) ?_
  refine kget (ci := 6) S hK hP rfl inX6_hope_X6 0 rfl 3 (by decide) lkX6_hope_33 rfl dX6_hope_1 ?_
  refine lv_iload_n hx hb dX6_hope_4 rfl (lv_at hl 1 rfl) ?_
  obtain ⟨o_5, he, hsh⟩ := bd hsh
  refine kVi (ci := 4) S hK hA (ctX4_has l D cI cJ cZ q_villages q_villages_rocks q_villages_people q_villages_badHoles q_villages_wellPipes q_villages_endAges q_villages_runAges v_villages_size a1 o_5 he) noE_cl (cwV 1 hts gX6_hope_X4_has rfl rfl rfl hdX4_has ⟨Nat.le_of_ble_eq_true rfl, Nat.le_of_ble_eq_true rfl⟩) rfl 0 rfl [6] [0, 1, 2, 3, 4, 5, 7] [0, 1, 2, 3, 4, 5, 7, 6] (ws' := (wdX6_hope cI cJ cZ q_this q_tape q_book q_rocks q_villages q_ways q_planner q_rocks_priors q_rocks_chances q_rocks_wet q_rocks_barren q_rocks_pipes q_villages_rocks q_villages_people q_villages_badHoles q_villages_wellPipes q_villages_endAges q_villages_runAges v_rigPlace v_day v_rocks_size v_villages_size w_rocks_priors w_rocks_chances w_rocks_wet w_rocks_barren w_villages_rocks)) ⟨rfl, rfl, rfl, rfl, rfl, rfl, rfl⟩ trivial rfl hl.1 rfl (Nat.le_of_ble_eq_true rfl) dX6_hope_5 hP hD hS (fun H locs hP hD hS => ?_)
  refine lv_if_eq (tgt := 18) hx hb dX6_hope_8 (by decide) (fun c1 => ?_) (fun c1 => ?_)
  · skip
    have hsh := ite_t hsh c1
    refine lv_iconst (v := (-1 : Int32)) hx hb dX6_hope_18 (by decide) ?_
    have ho := Option.some.inj hsh
    rw [← ho] at hret
    exact hret _ _ _ _ dX6_hope_19 hP hD hS
  · skip
    have hsh := ite_f hsh c1
    refine lv_iload_n hx hb dX6_hope_11 rfl (lv_at hl 2 rfl) ?_
    obtain ⟨o_12, he, hsh⟩ := bd hsh
    refine kSi S hK hA (ctX2_isDepth l D cI cJ cZ a2 o_12 he) noE_cl (va_cwS 1 hts gX6_hope_X2_isDepth rfl rfl rfl hdX2_isDepth ⟨Nat.le_of_ble_eq_true rfl, Nat.le_of_ble_eq_true rfl⟩) [] [0, 1, 2, 3, 4, 5, 6, 7] [0, 1, 2, 3, 4, 5, 6, 7] (ws' := (wdX6_hope cI cJ cZ q_this q_tape q_book q_rocks q_villages q_ways q_planner q_rocks_priors q_rocks_chances q_rocks_wet q_rocks_barren q_rocks_pipes q_villages_rocks q_villages_people q_villages_badHoles q_villages_wellPipes q_villages_endAges q_villages_runAges v_rigPlace v_day v_rocks_size v_villages_size w_rocks_priors w_rocks_chances w_rocks_wet w_rocks_barren w_villages_rocks)) ⟨rfl, rfl, rfl, rfl, rfl, rfl, rfl⟩ trivial rfl hl.1 rfl (Nat.le_of_ble_eq_true rfl) dX6_hope_12 hP hD hS (fun H locs hP hD hS => ?_)
    refine lv_if_ne (tgt := 20) hx hb dX6_hope_15 (by decide) (fun c1 => ?_) (fun c1 => ?_)
    · skip
      have hsh := ite_t hsh c1
      refine lv_aload_n hx hb dX6_hope_20 rfl (lv_at hl 0 rfl) ?_
      refine kget (ci := 6) S hK hP rfl inX6_hope_X6 0 rfl 2 (by decide) lkX6_hope_26 rfl dX6_hope_21 ?_
      refine lv_aload_n hx hb dX6_hope_24 rfl (lv_at hl 0 rfl) ?_
      refine kget (ci := 6) S hK hP rfl inX6_hope_X6 0 rfl 3 (by decide) lkX6_hope_33 rfl dX6_hope_25 ?_
      refine lv_iload_n hx hb dX6_hope_28 rfl (lv_at hl 1 rfl) ?_
      obtain ⟨o_29, he, hsh⟩ := bd hsh
      refine kVi (ci := 4) S hK hA (ctX4_rockOf l D cI cJ cZ q_villages q_villages_rocks q_villages_people q_villages_badHoles q_villages_wellPipes q_villages_endAges q_villages_runAges v_villages_size w_villages_rocks a1 o_29 he) noE_cl (cwV 1 hts gX6_hope_X4_rockOf rfl rfl rfl hdX4_rockOf ⟨Nat.le_of_ble_eq_true rfl, Nat.le_of_ble_eq_true rfl⟩) rfl 0 rfl [6, 7] [0, 1, 2, 3, 4, 5] [0, 1, 2, 3, 4, 5, 6, 7] (ws' := (wdX6_hope cI cJ cZ q_this q_tape q_book q_rocks q_villages q_ways q_planner q_rocks_priors q_rocks_chances q_rocks_wet q_rocks_barren q_rocks_pipes q_villages_rocks q_villages_people q_villages_badHoles q_villages_wellPipes q_villages_endAges q_villages_runAges v_rigPlace v_day v_rocks_size v_villages_size w_rocks_priors w_rocks_chances w_rocks_wet w_rocks_barren w_villages_rocks)) ⟨rfl, rfl, rfl, rfl, rfl, rfl, rfl⟩ trivial rfl hl.1 rfl (Nat.le_of_ble_eq_true rfl) dX6_hope_29 hP hD hS (fun H locs hP hD hS => ?_)
      refine lv_iload_n hx hb dX6_hope_32 rfl (lv_at hl 2 rfl) ?_
      obtain ⟨o_33, he, hsh⟩ := bd hsh
      refine kVi (ci := 2) S hK hA (ctX2_hopeOn l D cI cJ cZ q_rocks q_rocks_priors q_rocks_chances q_rocks_wet q_rocks_barren q_rocks_pipes v_rocks_size w_rocks_priors w_rocks_chances w_rocks_wet w_rocks_barren o_29 a2 o_33 he) noE_cl (cwV 2 hts gX6_hope_X2_hopeOn rfl rfl rfl hdX2_hopeOn ⟨Nat.le_of_ble_eq_true rfl, Nat.le_of_ble_eq_true rfl⟩) rfl 0 rfl [1, 2, 3, 4, 5] [0, 6, 7] [0, 3, 4, 5, 6, 7, 1, 2] (ws' := (wdX6_hope cI cJ cZ q_this q_tape q_book q_rocks q_villages q_ways q_planner q_rocks_priors q_rocks_chances q_rocks_wet q_rocks_barren q_rocks_pipes q_villages_rocks q_villages_people q_villages_badHoles q_villages_wellPipes q_villages_endAges q_villages_runAges v_rigPlace v_day v_rocks_size v_villages_size w_rocks_priors w_rocks_chances w_rocks_wet w_rocks_barren w_villages_rocks)) ⟨rfl, rfl, rfl, rfl, rfl, rfl, rfl⟩ trivial rfl hl.1 rfl (Nat.le_of_ble_eq_true rfl) dX6_hope_33 hP hD hS (fun H locs hP hD hS => ?_)
      have ho := Option.some.inj hsh
      rw [← ho] at hret
      exact hret _ _ _ _ dX6_hope_36 hP hD hS
    · skip
      have hsh := ite_f hsh (fun h => h c1)
      refine lv_iconst (v := (-1 : Int32)) hx hb dX6_hope_18 (by decide) ?_
      have ho := Option.some.inj hsh
      rw [← ho] at hret
      exact hret _ _ _ _ dX6_hope_19 hP hD hS

/-! DryWells.plan -/
noncomputable def shX6_plan (a1 : Int32) (a2 : Int32) (v_rigPlace : Int32) (w_book_numbers : Nat → Int32) (w_rocks_priors : Nat → Int32) (w_rocks_chances : Nat → Int32) (w_rocks_wet : Nat → Int32) (w_rocks_barren : Nat → Int32) (v_villages_size : Int32) (w_villages_rocks : Nat → Int32) (w_villages_people : Nat → Int32) (w_villages_badHoles : Nat → Int32) (w_villages_wellPipes : Nat → Int32) (w_ways_days : Nat → Int32) (v_planner_admitted : Int32) (v_planner_made : Int32) (v_planner_worth : Int64) (v_planner_set : Int32) (v_planner_pipes : Int32) (v_planner_days : Int32) (v_planner_stops : Int32) (w_planner_gains : Nat → Int64) (w_planner_roads : Nat → Int32) (w_planner_steps : Nat → Int32) (w_planner_worths : Nat → Int64) (w_planner_depths : Nat → Int32) (w_planner_rivals : Nat → Int32) (w_planner_order : Nat → Int32) : Option (Int64 × Int32 × Int32 × Int64 × Int32 × Int32 × Int32 × Int32 × (Nat → Int64) × (Nat → Int32) × (Nat → Int32) × (Nat → Int64) × (Nat → Int32) × (Nat → Int32) × (Nat → Int32)) :=
  (if a1 < 0 then some ((-1 : Int64), v_planner_admitted, v_planner_made, v_planner_worth, v_planner_set, v_planner_pipes, v_planner_days, v_planner_stops, w_planner_gains, w_planner_roads, w_planner_steps, w_planner_worths, w_planner_depths, w_planner_rivals, w_planner_order) else (if (28 : Int32) < a1 then some ((-1 : Int64), v_planner_admitted, v_planner_made, v_planner_worth, v_planner_set, v_planner_pipes, v_planner_days, v_planner_stops, w_planner_gains, w_planner_roads, w_planner_steps, w_planner_worths, w_planner_depths, w_planner_rivals, w_planner_order) else (if a2 < 0 then some ((-1 : Int64), v_planner_admitted, v_planner_made, v_planner_worth, v_planner_set, v_planner_pipes, v_planner_days, v_planner_stops, w_planner_gains, w_planner_roads, w_planner_steps, w_planner_worths, w_planner_depths, w_planner_rivals, w_planner_order) else (if a2 ≤ (99 : Int32) then ((shX0_dry w_book_numbers).bind fun o_40 => ((shX1_admit o_40 v_planner_admitted w_planner_gains v_villages_size w_villages_rocks w_villages_people w_villages_badHoles w_villages_wellPipes w_rocks_priors w_rocks_chances w_rocks_wet w_rocks_barren).bind fun o_43 => ((shX4_size v_villages_size).bind fun o_58 => ((shX1_measureWays o_58 o_43.1 w_planner_roads w_planner_steps w_ways_days).bind fun o_61 => ((shX1_weighDepths a1 o_43.1 o_43.2 w_planner_worths).bind fun o_69 => ((shX0_rest w_book_numbers).bind fun o_86 => ((shX1_choose v_rigPlace a1 a2 o_86 o_43.1 v_planner_made v_planner_worth v_planner_set v_planner_pipes v_planner_days v_planner_stops o_43.2 o_61.1 o_61.2 o_69 w_planner_depths w_planner_rivals w_planner_order).bind fun o_89 => ((shX1_worth o_89.2.1).bind fun o_96 => some (o_96, o_43.1, o_89.1, o_89.2.1, o_89.2.2.1, o_89.2.2.2.1, o_89.2.2.2.2.1, o_89.2.2.2.2.2.1, o_43.2, o_61.1, o_61.2, o_69, o_89.2.2.2.2.2.2.1, o_89.2.2.2.2.2.2.2.1, o_89.2.2.2.2.2.2.2.2))))))))) else some ((-1 : Int64), v_planner_admitted, v_planner_made, v_planner_worth, v_planner_set, v_planner_pipes, v_planner_days, v_planner_stops, w_planner_gains, w_planner_roads, w_planner_steps, w_planner_worths, w_planner_depths, w_planner_rivals, w_planner_order)))))
def wdX6_plan (cI cJ cZ : ClassId) (q_this q_tape q_book q_rocks q_villages q_ways q_planner q_book_numbers q_book_fresh q_book_told q_rocks_priors q_rocks_chances q_rocks_wet q_rocks_barren q_rocks_pipes q_villages_rocks q_villages_people q_villages_badHoles q_villages_wellPipes q_villages_endAges q_villages_runAges q_ways_days q_planner_gains q_planner_roads q_planner_steps q_planner_worths q_planner_depths q_planner_rivals q_planner_order : Nat) (v_rigPlace : Int32) (v_day : Int32) (v_book_faultKind : Int32) (v_book_faultPlace : Int32) (v_book_at : Int32) (v_book_end : Int32) (v_rocks_size : Int32) (v_villages_size : Int32) (v_planner_admitted : Int32) (v_planner_made : Int32) (v_planner_worth : Int64) (v_planner_set : Int32) (v_planner_pipes : Int32) (v_planner_days : Int32) (v_planner_stops : Int32) (w_book_numbers : Nat → Int32) (w_rocks_priors : Nat → Int32) (w_rocks_chances : Nat → Int32) (w_rocks_wet : Nat → Int32) (w_rocks_barren : Nat → Int32) (w_villages_rocks : Nat → Int32) (w_villages_people : Nat → Int32) (w_villages_badHoles : Nat → Int32) (w_villages_wellPipes : Nat → Int32) (w_ways_days : Nat → Int32) (w_planner_gains : Nat → Int64) (w_planner_roads : Nat → Int32) (w_planner_steps : Nat → Int32) (w_planner_worths : Nat → Int64) (w_planner_depths : Nat → Int32) (w_planner_rivals : Nat → Int32) (w_planner_order : Nat → Int32) : va_W := [(q_this, .inr (6, [.ref q_tape, .ref q_book, .ref q_rocks, .ref q_villages, .ref q_ways, .ref q_planner, .int v_rigPlace, .int v_day])), (q_book, .inr (0, [.ref q_book_numbers, .ref q_book_fresh, .ref q_book_told, .int v_book_faultKind, .int v_book_faultPlace, .int v_book_at, .int v_book_end])), (q_book_numbers, .inl (cI, 3, .inl w_book_numbers)), (q_rocks, .inr (2, [.ref q_rocks_priors, .ref q_rocks_chances, .ref q_rocks_wet, .ref q_rocks_barren, .ref q_rocks_pipes, .int v_rocks_size])), (q_rocks_priors, .inl (cI, 12, .inl w_rocks_priors)), (q_rocks_chances, .inl (cI, 12, .inl w_rocks_chances)), (q_rocks_wet, .inl (cI, 16, .inl w_rocks_wet)), (q_rocks_barren, .inl (cI, 16, .inl w_rocks_barren)), (q_villages, .inr (4, [.ref q_villages_rocks, .ref q_villages_people, .ref q_villages_badHoles, .ref q_villages_wellPipes, .ref q_villages_endAges, .ref q_villages_runAges, .int v_villages_size])), (q_villages_rocks, .inl (cI, 8, .inl w_villages_rocks)), (q_villages_people, .inl (cI, 8, .inl w_villages_people)), (q_villages_badHoles, .inl (cI, 8, .inl w_villages_badHoles)), (q_villages_wellPipes, .inl (cI, 8, .inl w_villages_wellPipes)), (q_ways, .inr (5, [.ref q_ways_days])), (q_ways_days, .inl (cI, 64, .inl w_ways_days)), (q_planner, .inr (1, [.int v_planner_admitted, .ref q_planner_gains, .ref q_planner_roads, .ref q_planner_steps, .ref q_planner_worths, .int v_planner_made, .long v_planner_worth, .int v_planner_set, .int v_planner_pipes, .int v_planner_days, .int v_planner_stops, .ref q_planner_depths, .ref q_planner_rivals, .ref q_planner_order])), (q_planner_gains, .inl (cJ, 40, .inr (.inl w_planner_gains))), (q_planner_roads, .inl (cI, 1024, .inl w_planner_roads)), (q_planner_steps, .inl (cI, 64, .inl w_planner_steps)), (q_planner_worths, .inl (cJ, 3712, .inr (.inl w_planner_worths))), (q_planner_depths, .inl (cI, 8, .inl w_planner_depths)), (q_planner_rivals, .inl (cI, 8, .inl w_planner_rivals)), (q_planner_order, .inl (cI, 7, .inl w_planner_order))]
abbrev rmX6_plan : Room := { frames := 6, cells := 0, slots := 0, locals := 159 }
theorem inX6_plan_X6 : ∀ w ∈ u_ws RX6 TX6 8, w ∈ wsX6_plan := fun _ h => List.mem_cons_of_mem _ (List.mem_append_left _ (List.mem_append_left _ (List.mem_append_left _ (List.mem_append_left _ (List.mem_append_left _ (List.mem_append_right _ h))))))
theorem inX6_plan_X0 : ∀ w ∈ u_ws RX0 TX0 7, w ∈ wsX6_plan := fun _ h => List.mem_cons_of_mem _ (List.mem_append_left _ (List.mem_append_left _ (List.mem_append_left _ (List.mem_append_left _ (List.mem_append_right _ h)))))
theorem inX6_plan_X2 : ∀ w ∈ u_ws RX2 TX2 6, w ∈ wsX6_plan := fun _ h => List.mem_cons_of_mem _ (List.mem_append_left _ (List.mem_append_right _ h))
theorem inX6_plan_X4 : ∀ w ∈ u_ws RX4 TX4 7, w ∈ wsX6_plan := fun _ h => List.mem_cons_of_mem _ (List.mem_append_left _ (List.mem_append_left _ (List.mem_append_right _ h)))
theorem inX6_plan_X5 : ∀ w ∈ u_ws RX5 TX5 1, w ∈ wsX6_plan := fun _ h => List.mem_cons_of_mem _ (List.mem_append_right _ h)
theorem inX6_plan_X1 : ∀ w ∈ u_ws RX1 TX1 14, w ∈ wsX6_plan := fun _ h => List.mem_cons_of_mem _ (List.mem_append_left _ (List.mem_append_left _ (List.mem_append_left _ (List.mem_append_right _ h))))
theorem lkX6_plan_47 : Cond.fieldLink RX6 47 (TX6 5).1 (TX6 5).2.1 (TX6 5).2.2.1 ∈ wsX6_plan := List.mem_of_getElem? (i := 2) rfl
theorem lkX6_plan_33 : Cond.fieldLink RX6 33 (TX6 3).1 (TX6 3).2.1 (TX6 3).2.2.1 ∈ wsX6_plan := List.mem_of_getElem? (i := 3) rfl
theorem lkX6_plan_26 : Cond.fieldLink RX6 26 (TX6 2).1 (TX6 2).2.1 (TX6 2).2.2.1 ∈ wsX6_plan := List.mem_of_getElem? (i := 4) rfl
theorem lkX6_plan_19 : Cond.fieldLink RX6 19 (TX6 1).1 (TX6 1).2.1 (TX6 1).2.2.1 ∈ wsX6_plan := List.mem_of_getElem? (i := 5) rfl
theorem lkX6_plan_40 : Cond.fieldLink RX6 40 (TX6 4).1 (TX6 4).2.1 (TX6 4).2.2.1 ∈ wsX6_plan := List.mem_of_getElem? (i := 6) rfl
theorem lkX6_plan_51 : Cond.fieldLink RX6 51 (TX6 6).1 (TX6 6).2.1 (TX6 6).2.2.1 ∈ wsX6_plan := List.mem_of_getElem? (i := 7) rfl
theorem hdX6_plan : yX6_plan.cls = RX6 ∧ yX6_plan.cls ≠ "java/lang/invoke/MethodHandle" ∧ yX6_plan.cls ≠ "java/lang/invoke/VarHandle" ∧ (parseMethodDescriptor yX6_plan.desc).map (fun d => d.parameters.length) = some 2 := by decide +kernel
set_option maxHeartbeats 4000000 in
set_option maxRecDepth 100000 in
theorem ctX6_plan (l : Launch) (D : va_G) (cI cJ cZ : ClassId) (q_this q_tape q_book q_rocks q_villages q_ways q_planner q_book_numbers q_book_fresh q_book_told q_rocks_priors q_rocks_chances q_rocks_wet q_rocks_barren q_rocks_pipes q_villages_rocks q_villages_people q_villages_badHoles q_villages_wellPipes q_villages_endAges q_villages_runAges q_ways_days q_planner_gains q_planner_roads q_planner_steps q_planner_worths q_planner_depths q_planner_rivals q_planner_order : Nat) (v_rigPlace : Int32) (v_day : Int32) (v_book_faultKind : Int32) (v_book_faultPlace : Int32) (v_book_at : Int32) (v_book_end : Int32) (v_rocks_size : Int32) (v_villages_size : Int32) (v_planner_admitted : Int32) (v_planner_made : Int32) (v_planner_worth : Int64) (v_planner_set : Int32) (v_planner_pipes : Int32) (v_planner_days : Int32) (v_planner_stops : Int32) (w_book_numbers : Nat → Int32) (w_rocks_priors : Nat → Int32) (w_rocks_chances : Nat → Int32) (w_rocks_wet : Nat → Int32) (w_rocks_barren : Nat → Int32) (w_villages_rocks : Nat → Int32) (w_villages_people : Nat → Int32) (w_villages_badHoles : Nat → Int32) (w_villages_wellPipes : Nat → Int32) (w_ways_days : Nat → Int32) (w_planner_gains : Nat → Int64) (w_planner_roads : Nat → Int32) (w_planner_steps : Nat → Int32) (w_planner_worths : Nat → Int64) (w_planner_depths : Nat → Int32) (w_planner_rivals : Nat → Int32) (w_planner_order : Nat → Int32) (a1 : Int32) (a2 : Int32) (o : Int64 × Int32 × Int32 × Int64 × Int32 × Int32 × Int32 × Int32 × (Nat → Int64) × (Nat → Int32) × (Nat → Int32) × (Nat → Int64) × (Nat → Int32) × (Nat → Int32) × (Nat → Int32)) (hsh : shX6_plan a1 a2 v_rigPlace w_book_numbers w_rocks_priors w_rocks_chances w_rocks_wet w_rocks_barren v_villages_size w_villages_rocks w_villages_people w_villages_badHoles w_villages_wellPipes w_ways_days v_planner_admitted v_planner_made v_planner_worth v_planner_set v_planner_pipes v_planner_days v_planner_stops w_planner_gains w_planner_roads w_planner_steps w_planner_worths w_planner_depths w_planner_rivals w_planner_order = some o) : CtL l yX6_plan wsX6_plan rmX6_plan D (tys3 cI cJ cZ) noE (wdX6_plan cI cJ cZ q_this q_tape q_book q_rocks q_villages q_ways q_planner q_book_numbers q_book_fresh q_book_told q_rocks_priors q_rocks_chances q_rocks_wet q_rocks_barren q_rocks_pipes q_villages_rocks q_villages_people q_villages_badHoles q_villages_wellPipes q_villages_endAges q_villages_runAges q_ways_days q_planner_gains q_planner_roads q_planner_steps q_planner_worths q_planner_depths q_planner_rivals q_planner_order v_rigPlace v_day v_book_faultKind v_book_faultPlace v_book_at v_book_end v_rocks_size v_villages_size v_planner_admitted v_planner_made v_planner_worth v_planner_set v_planner_pipes v_planner_days v_planner_stops w_book_numbers w_rocks_priors w_rocks_chances w_rocks_wet w_rocks_barren w_villages_rocks w_villages_people w_villages_badHoles w_villages_wellPipes w_ways_days w_planner_gains w_planner_roads w_planner_steps w_planner_worths w_planner_depths w_planner_rivals w_planner_order) [.ref q_this, .int a1, .int a2] o.1 (wdX6_plan cI cJ cZ q_this q_tape q_book q_rocks q_villages q_ways q_planner q_book_numbers q_book_fresh q_book_told q_rocks_priors q_rocks_chances q_rocks_wet q_rocks_barren q_rocks_pipes q_villages_rocks q_villages_people q_villages_badHoles q_villages_wellPipes q_villages_endAges q_villages_runAges q_ways_days q_planner_gains q_planner_roads q_planner_steps q_planner_worths q_planner_depths q_planner_rivals q_planner_order v_rigPlace v_day v_book_faultKind v_book_faultPlace v_book_at v_book_end v_rocks_size v_villages_size o.2.1 o.2.2.1 o.2.2.2.1 o.2.2.2.2.1 o.2.2.2.2.2.1 o.2.2.2.2.2.2.1 o.2.2.2.2.2.2.2.1 w_book_numbers w_rocks_priors w_rocks_chances w_rocks_wet w_rocks_barren w_villages_rocks w_villages_people w_villages_badHoles w_villages_wellPipes w_ways_days o.2.2.2.2.2.2.2.2.1 o.2.2.2.2.2.2.2.2.2.1 o.2.2.2.2.2.2.2.2.2.2.1 o.2.2.2.2.2.2.2.2.2.2.2.1 o.2.2.2.2.2.2.2.2.2.2.2.2.1 o.2.2.2.2.2.2.2.2.2.2.2.2.2.1 o.2.2.2.2.2.2.2.2.2.2.2.2.2.2) := by
  refine ctL plX6 rfl (Nat.le_of_ble_eq_true rfl) ?_
  intro p e s m below meth c A Q S hK hA hE hret H locs hP hD hS ls hl
  replace S : CallFix p m c cX6_plan 3 s _ wsX6_plan RX6 := S
  generalize ([.ref q_this, .int a1, .int a2] : List Value).toArray = args at S hret ⊢
  obtain ⟨hx, hb, hml, hown, hts⟩ := id S
  replace hl : lv_has ls 3 [(0, .ref q_this), (1, .int a1), (2, .int a2)] := hl
  unfold shX6_plan at hsh
  refine lv_iload_n hx hb dX6_plan_0 rfl (lv_at hl 1 rfl) ?_
  refine lv_if_lt (tgt := 20) hx hb dX6_plan_1 (by decide) (fun c1 => ?_) (fun c1 => ?_)
  · skip
    have hsh := ite_t hsh c1
    refine lv_ldc2 hx hb hown (v := (-1 : Int64)) (hts _ (List.mem_of_getElem? (i := 1) rfl)) dX6_plan_20 ?_
    have ho := Option.some.inj hsh
    rw [← ho] at hret
    exact hret _ _ _ _ dX6_plan_23 hP hD hS
  · skip
    have hsh := ite_f hsh c1
    refine lv_iload_n hx hb dX6_plan_4 rfl (lv_at hl 1 rfl) ?_
    refine lv_bipush (v := (28 : Int32)) hx hb dX6_plan_5 (by decide) ?_
    refine lv_icmp_gt (tgt := 20) hx hb dX6_plan_7 (by decide) (fun c1 => ?_) (fun c1 => ?_)
    · skip
      have hsh := ite_t hsh c1
      refine lv_ldc2 hx hb hown (v := (-1 : Int64)) (hts _ (List.mem_of_getElem? (i := 1) rfl)) dX6_plan_20 ?_
      have ho := Option.some.inj hsh
      rw [← ho] at hret
      exact hret _ _ _ _ dX6_plan_23 hP hD hS
    · skip
      have hsh := ite_f hsh c1
      refine lv_iload_n hx hb dX6_plan_10 rfl (lv_at hl 2 rfl) ?_
      refine lv_if_lt (tgt := 20) hx hb dX6_plan_11 (by decide) (fun c1 => ?_) (fun c1 => ?_)
      · skip
        have hsh := ite_t hsh c1
        refine lv_ldc2 hx hb hown (v := (-1 : Int64)) (hts _ (List.mem_of_getElem? (i := 1) rfl)) dX6_plan_20 ?_
        have ho := Option.some.inj hsh
        rw [← ho] at hret
        exact hret _ _ _ _ dX6_plan_23 hP hD hS
      · skip
        have hsh := ite_f hsh c1
        refine lv_iload_n hx hb dX6_plan_14 rfl (lv_at hl 2 rfl) ?_
        refine lv_bipush (v := (99 : Int32)) hx hb dX6_plan_15 (by decide) ?_
        refine lv_icmp_le (tgt := 24) hx hb dX6_plan_17 (by decide) (fun c1 => ?_) (fun c1 => ?_)
        · skip
          have hsh := ite_t hsh c1
          refine lv_aload_n hx hb dX6_plan_24 rfl (lv_at hl 0 rfl) ?_
          refine kget (ci := 6) S hK hP rfl inX6_plan_X6 0 rfl 5 (by decide) lkX6_plan_47 rfl dX6_plan_25 ?_
          refine lv_aload_n hx hb dX6_plan_28 rfl (lv_at hl 0 rfl) ?_
          refine kget (ci := 6) S hK hP rfl inX6_plan_X6 0 rfl 3 (by decide) lkX6_plan_33 rfl dX6_plan_29 ?_
          refine lv_aload_n hx hb dX6_plan_32 rfl (lv_at hl 0 rfl) ?_
          refine kget (ci := 6) S hK hP rfl inX6_plan_X6 0 rfl 2 (by decide) lkX6_plan_26 rfl dX6_plan_33 ?_
          refine lv_aload_n hx hb dX6_plan_36 rfl (lv_at hl 0 rfl) ?_
          refine kget (ci := 6) S hK hP rfl inX6_plan_X6 0 rfl 1 (by decide) lkX6_plan_19 rfl dX6_plan_37 ?_
          obtain ⟨o_40, he, hsh⟩ := bd hsh
          refine kVi (ci := 0) S hK hA (ctX0_dry l D cI cJ cZ q_book q_book_numbers q_book_fresh q_book_told v_book_faultKind v_book_faultPlace v_book_at v_book_end w_book_numbers o_40 he) noE_cl (cwV 0 hts gX6_plan_X0_dry rfl rfl rfl hdX0_dry ⟨Nat.le_of_ble_eq_true rfl, Nat.le_of_ble_eq_true rfl⟩) rfl 0 rfl [1, 2] [0, 3, 4, 5, 6, 7, 8, 9, 10, 11, 12, 13, 14, 15, 16, 17, 18, 19, 20, 21, 22] [0, 21, 22, 1, 2, 3, 4, 5, 6, 7, 8, 9, 10, 11, 12, 13, 14, 15, 16, 17, 18, 19, 20] (ws' := (wdX6_plan cI cJ cZ q_this q_tape q_book q_rocks q_villages q_ways q_planner q_book_numbers q_book_fresh q_book_told q_rocks_priors q_rocks_chances q_rocks_wet q_rocks_barren q_rocks_pipes q_villages_rocks q_villages_people q_villages_badHoles q_villages_wellPipes q_villages_endAges q_villages_runAges q_ways_days q_planner_gains q_planner_roads q_planner_steps q_planner_worths q_planner_depths q_planner_rivals q_planner_order v_rigPlace v_day v_book_faultKind v_book_faultPlace v_book_at v_book_end v_rocks_size v_villages_size v_planner_admitted v_planner_made v_planner_worth v_planner_set v_planner_pipes v_planner_days v_planner_stops w_book_numbers w_rocks_priors w_rocks_chances w_rocks_wet w_rocks_barren w_villages_rocks w_villages_people w_villages_badHoles w_villages_wellPipes w_ways_days w_planner_gains w_planner_roads w_planner_steps w_planner_worths w_planner_depths w_planner_rivals w_planner_order)) ⟨rfl, rfl, rfl, rfl, rfl, rfl, rfl⟩ trivial rfl hl.1 rfl (Nat.le_of_ble_eq_true rfl) dX6_plan_40 hP hD hS (fun H locs hP hD hS => ?_)
          obtain ⟨o_43, he, hsh⟩ := bd hsh
          refine kVv (ci := 1) S hK hA (ctX1_admit l D cI cJ cZ q_planner q_villages q_rocks q_planner_gains q_planner_roads q_planner_steps q_planner_worths q_planner_depths q_planner_rivals q_planner_order q_villages_rocks q_villages_people q_villages_badHoles q_villages_wellPipes q_villages_endAges q_villages_runAges q_rocks_priors q_rocks_chances q_rocks_wet q_rocks_barren q_rocks_pipes v_planner_admitted v_planner_made v_planner_worth v_planner_set v_planner_pipes v_planner_days v_planner_stops v_villages_size v_rocks_size w_planner_gains w_villages_rocks w_villages_people w_villages_badHoles w_villages_wellPipes w_rocks_priors w_rocks_chances w_rocks_wet w_rocks_barren o_40 o_43 he) noE_cl (cwV 3 hts gX6_plan_X1_admit rfl rfl rfl hdX1_admit ⟨Nat.le_of_ble_eq_true rfl, Nat.le_of_ble_eq_true rfl⟩) rfl 0 rfl [15, 16, 8, 9, 10, 11, 12, 3, 4, 5, 6, 7] [0, 1, 2, 13, 14, 17, 18, 19, 20, 21, 22] [0, 1, 2, 18, 19, 20, 21, 22, 13, 14, 15, 16, 17, 3, 4, 11, 12, 5, 6, 7, 8, 9, 10] (ws' := (wdX6_plan cI cJ cZ q_this q_tape q_book q_rocks q_villages q_ways q_planner q_book_numbers q_book_fresh q_book_told q_rocks_priors q_rocks_chances q_rocks_wet q_rocks_barren q_rocks_pipes q_villages_rocks q_villages_people q_villages_badHoles q_villages_wellPipes q_villages_endAges q_villages_runAges q_ways_days q_planner_gains q_planner_roads q_planner_steps q_planner_worths q_planner_depths q_planner_rivals q_planner_order v_rigPlace v_day v_book_faultKind v_book_faultPlace v_book_at v_book_end v_rocks_size v_villages_size o_43.1 v_planner_made v_planner_worth v_planner_set v_planner_pipes v_planner_days v_planner_stops w_book_numbers w_rocks_priors w_rocks_chances w_rocks_wet w_rocks_barren w_villages_rocks w_villages_people w_villages_badHoles w_villages_wellPipes w_ways_days o_43.2 w_planner_roads w_planner_steps w_planner_worths w_planner_depths w_planner_rivals w_planner_order)) ⟨rfl, rfl, rfl, rfl, rfl, rfl, rfl⟩ trivial rfl hl.1 rfl (Nat.le_of_ble_eq_true rfl) dX6_plan_43 hP hD hS (fun H locs hP hD hS => ?_)
          refine lv_aload_n hx hb dX6_plan_46 rfl (lv_at hl 0 rfl) ?_
          refine kget (ci := 6) S hK hP rfl inX6_plan_X6 0 rfl 5 (by decide) lkX6_plan_47 rfl dX6_plan_47 ?_
          refine lv_aload_n hx hb dX6_plan_50 rfl (lv_at hl 0 rfl) ?_
          refine kget (ci := 6) S hK hP rfl inX6_plan_X6 0 rfl 4 (by decide) lkX6_plan_40 rfl dX6_plan_51 ?_
          refine lv_aload_n hx hb dX6_plan_54 rfl (lv_at hl 0 rfl) ?_
          refine kget (ci := 6) S hK hP rfl inX6_plan_X6 0 rfl 3 (by decide) lkX6_plan_33 rfl dX6_plan_55 ?_
          obtain ⟨o_58, he, hsh⟩ := bd hsh
          refine kVi (ci := 4) S hK hA (ctX4_size l D cI cJ cZ q_villages q_villages_rocks q_villages_people q_villages_badHoles q_villages_wellPipes q_villages_endAges q_villages_runAges v_villages_size o_58 he) noE_cl (cwV 0 hts gX6_plan_X4_size rfl rfl rfl hdX4_size ⟨Nat.le_of_ble_eq_true rfl, Nat.le_of_ble_eq_true rfl⟩) rfl 0 rfl [8] [0, 1, 2, 3, 4, 5, 6, 7, 9, 10, 11, 12, 13, 14, 15, 16, 17, 18, 19, 20, 21, 22] [0, 1, 2, 3, 4, 5, 6, 7, 22, 8, 9, 10, 11, 12, 13, 14, 15, 16, 17, 18, 19, 20, 21] (ws' := (wdX6_plan cI cJ cZ q_this q_tape q_book q_rocks q_villages q_ways q_planner q_book_numbers q_book_fresh q_book_told q_rocks_priors q_rocks_chances q_rocks_wet q_rocks_barren q_rocks_pipes q_villages_rocks q_villages_people q_villages_badHoles q_villages_wellPipes q_villages_endAges q_villages_runAges q_ways_days q_planner_gains q_planner_roads q_planner_steps q_planner_worths q_planner_depths q_planner_rivals q_planner_order v_rigPlace v_day v_book_faultKind v_book_faultPlace v_book_at v_book_end v_rocks_size v_villages_size o_43.1 v_planner_made v_planner_worth v_planner_set v_planner_pipes v_planner_days v_planner_stops w_book_numbers w_rocks_priors w_rocks_chances w_rocks_wet w_rocks_barren w_villages_rocks w_villages_people w_villages_badHoles w_villages_wellPipes w_ways_days o_43.2 w_planner_roads w_planner_steps w_planner_worths w_planner_depths w_planner_rivals w_planner_order)) ⟨rfl, rfl, rfl, rfl, rfl, rfl, rfl⟩ trivial rfl hl.1 rfl (Nat.le_of_ble_eq_true rfl) dX6_plan_58 hP hD hS (fun H locs hP hD hS => ?_)
          obtain ⟨o_61, he, hsh⟩ := bd hsh
          refine kVv (ci := 1) S hK hA (ctX1_measureWays l D cI cJ cZ q_planner q_ways q_planner_gains q_planner_roads q_planner_steps q_planner_worths q_planner_depths q_planner_rivals q_planner_order q_ways_days o_43.1 v_planner_made v_planner_worth v_planner_set v_planner_pipes v_planner_days v_planner_stops w_planner_roads w_planner_steps w_ways_days o_58 o_61 he) noE_cl (cwV 2 hts gX6_plan_X1_measureWays rfl rfl rfl hdX1_measureWays ⟨Nat.le_of_ble_eq_true rfl, Nat.le_of_ble_eq_true rfl⟩) rfl 0 rfl [15, 17, 18, 13, 14] [0, 1, 2, 3, 4, 5, 6, 7, 8, 9, 10, 11, 12, 16, 19, 20, 21, 22] [0, 1, 2, 3, 4, 5, 6, 7, 8, 9, 10, 11, 12, 21, 22, 18, 13, 19, 20, 14, 15, 16, 17] (ws' := (wdX6_plan cI cJ cZ q_this q_tape q_book q_rocks q_villages q_ways q_planner q_book_numbers q_book_fresh q_book_told q_rocks_priors q_rocks_chances q_rocks_wet q_rocks_barren q_rocks_pipes q_villages_rocks q_villages_people q_villages_badHoles q_villages_wellPipes q_villages_endAges q_villages_runAges q_ways_days q_planner_gains q_planner_roads q_planner_steps q_planner_worths q_planner_depths q_planner_rivals q_planner_order v_rigPlace v_day v_book_faultKind v_book_faultPlace v_book_at v_book_end v_rocks_size v_villages_size o_43.1 v_planner_made v_planner_worth v_planner_set v_planner_pipes v_planner_days v_planner_stops w_book_numbers w_rocks_priors w_rocks_chances w_rocks_wet w_rocks_barren w_villages_rocks w_villages_people w_villages_badHoles w_villages_wellPipes w_ways_days o_43.2 o_61.1 o_61.2 w_planner_worths w_planner_depths w_planner_rivals w_planner_order)) ⟨rfl, rfl, rfl, rfl, rfl, rfl, rfl⟩ trivial rfl hl.1 rfl (Nat.le_of_ble_eq_true rfl) dX6_plan_61 hP hD hS (fun H locs hP hD hS => ?_)
          refine lv_aload_n hx hb dX6_plan_64 rfl (lv_at hl 0 rfl) ?_
          refine kget (ci := 6) S hK hP rfl inX6_plan_X6 0 rfl 5 (by decide) lkX6_plan_47 rfl dX6_plan_65 ?_
          refine lv_iload_n hx hb dX6_plan_68 rfl (lv_at hl 1 rfl) ?_
          obtain ⟨o_69, he, hsh⟩ := bd hsh
          refine kVv (ci := 1) S hK hA (ctX1_weighDepths l D cI cJ cZ q_planner q_planner_gains q_planner_roads q_planner_steps q_planner_worths q_planner_depths q_planner_rivals q_planner_order o_43.1 v_planner_made v_planner_worth v_planner_set v_planner_pipes v_planner_days v_planner_stops o_43.2 w_planner_worths a1 o_69 he) noE_cl (cwV 1 hts gX6_plan_X1_weighDepths rfl rfl rfl hdX1_weighDepths ⟨Nat.le_of_ble_eq_true rfl, Nat.le_of_ble_eq_true rfl⟩) rfl 0 rfl [15, 16, 19] [0, 1, 2, 3, 4, 5, 6, 7, 8, 9, 10, 11, 12, 13, 14, 17, 18, 20, 21, 22] [0, 1, 2, 3, 4, 5, 6, 7, 8, 9, 10, 11, 12, 13, 14, 20, 21, 15, 16, 22, 17, 18, 19] (ws' := (wdX6_plan cI cJ cZ q_this q_tape q_book q_rocks q_villages q_ways q_planner q_book_numbers q_book_fresh q_book_told q_rocks_priors q_rocks_chances q_rocks_wet q_rocks_barren q_rocks_pipes q_villages_rocks q_villages_people q_villages_badHoles q_villages_wellPipes q_villages_endAges q_villages_runAges q_ways_days q_planner_gains q_planner_roads q_planner_steps q_planner_worths q_planner_depths q_planner_rivals q_planner_order v_rigPlace v_day v_book_faultKind v_book_faultPlace v_book_at v_book_end v_rocks_size v_villages_size o_43.1 v_planner_made v_planner_worth v_planner_set v_planner_pipes v_planner_days v_planner_stops w_book_numbers w_rocks_priors w_rocks_chances w_rocks_wet w_rocks_barren w_villages_rocks w_villages_people w_villages_badHoles w_villages_wellPipes w_ways_days o_43.2 o_61.1 o_61.2 o_69 w_planner_depths w_planner_rivals w_planner_order)) ⟨rfl, rfl, rfl, rfl, rfl, rfl, rfl⟩ trivial rfl hl.1 rfl (Nat.le_of_ble_eq_true rfl) dX6_plan_69 hP hD hS (fun H locs hP hD hS => ?_)
          refine lv_aload_n hx hb dX6_plan_72 rfl (lv_at hl 0 rfl) ?_
          refine kget (ci := 6) S hK hP rfl inX6_plan_X6 0 rfl 5 (by decide) lkX6_plan_47 rfl dX6_plan_73 ?_
          refine lv_aload_n hx hb dX6_plan_76 rfl (lv_at hl 0 rfl) ?_
          refine kget (ci := 6) S hK hP rfl inX6_plan_X6 0 rfl 6 (by decide) lkX6_plan_51 rfl dX6_plan_77 ?_
          refine lv_iload_n hx hb dX6_plan_80 rfl (lv_at hl 1 rfl) ?_
          refine lv_iload_n hx hb dX6_plan_81 rfl (lv_at hl 2 rfl) ?_
          refine lv_aload_n hx hb dX6_plan_82 rfl (lv_at hl 0 rfl) ?_
          refine kget (ci := 6) S hK hP rfl inX6_plan_X6 0 rfl 1 (by decide) lkX6_plan_19 rfl dX6_plan_83 ?_
          obtain ⟨o_86, he, hsh⟩ := bd hsh
          refine kVi (ci := 0) S hK hA (ctX0_rest l D cI cJ cZ q_book q_book_numbers q_book_fresh q_book_told v_book_faultKind v_book_faultPlace v_book_at v_book_end w_book_numbers o_86 he) noE_cl (cwV 0 hts gX6_plan_X0_rest rfl rfl rfl hdX0_rest ⟨Nat.le_of_ble_eq_true rfl, Nat.le_of_ble_eq_true rfl⟩) rfl 0 rfl [1, 2] [0, 3, 4, 5, 6, 7, 8, 9, 10, 11, 12, 13, 14, 15, 16, 17, 18, 19, 20, 21, 22] [0, 21, 22, 1, 2, 3, 4, 5, 6, 7, 8, 9, 10, 11, 12, 13, 14, 15, 16, 17, 18, 19, 20] (ws' := (wdX6_plan cI cJ cZ q_this q_tape q_book q_rocks q_villages q_ways q_planner q_book_numbers q_book_fresh q_book_told q_rocks_priors q_rocks_chances q_rocks_wet q_rocks_barren q_rocks_pipes q_villages_rocks q_villages_people q_villages_badHoles q_villages_wellPipes q_villages_endAges q_villages_runAges q_ways_days q_planner_gains q_planner_roads q_planner_steps q_planner_worths q_planner_depths q_planner_rivals q_planner_order v_rigPlace v_day v_book_faultKind v_book_faultPlace v_book_at v_book_end v_rocks_size v_villages_size o_43.1 v_planner_made v_planner_worth v_planner_set v_planner_pipes v_planner_days v_planner_stops w_book_numbers w_rocks_priors w_rocks_chances w_rocks_wet w_rocks_barren w_villages_rocks w_villages_people w_villages_badHoles w_villages_wellPipes w_ways_days o_43.2 o_61.1 o_61.2 o_69 w_planner_depths w_planner_rivals w_planner_order)) ⟨rfl, rfl, rfl, rfl, rfl, rfl, rfl⟩ trivial rfl hl.1 rfl (Nat.le_of_ble_eq_true rfl) dX6_plan_86 hP hD hS (fun H locs hP hD hS => ?_)
          obtain ⟨o_89, he, hsh⟩ := bd hsh
          refine kVv (ci := 1) S hK hA (ctX1_choose l D cI cJ cZ q_planner q_planner_gains q_planner_roads q_planner_steps q_planner_worths q_planner_depths q_planner_rivals q_planner_order o_43.1 v_planner_made v_planner_worth v_planner_set v_planner_pipes v_planner_days v_planner_stops o_43.2 o_61.1 o_61.2 o_69 w_planner_depths w_planner_rivals w_planner_order v_rigPlace a1 a2 o_86 o_89 he) noE_cl (cwV 4 hts gX6_plan_X1_choose rfl rfl rfl hdX1_choose ⟨Nat.le_of_ble_eq_true rfl, Nat.le_of_ble_eq_true rfl⟩) rfl 0 rfl [15, 16, 17, 18, 19, 20, 21, 22] [0, 1, 2, 3, 4, 5, 6, 7, 8, 9, 10, 11, 12, 13, 14] [0, 1, 2, 3, 4, 5, 6, 7, 8, 9, 10, 11, 12, 13, 14, 15, 16, 17, 18, 19, 20, 21, 22] (ws' := (wdX6_plan cI cJ cZ q_this q_tape q_book q_rocks q_villages q_ways q_planner q_book_numbers q_book_fresh q_book_told q_rocks_priors q_rocks_chances q_rocks_wet q_rocks_barren q_rocks_pipes q_villages_rocks q_villages_people q_villages_badHoles q_villages_wellPipes q_villages_endAges q_villages_runAges q_ways_days q_planner_gains q_planner_roads q_planner_steps q_planner_worths q_planner_depths q_planner_rivals q_planner_order v_rigPlace v_day v_book_faultKind v_book_faultPlace v_book_at v_book_end v_rocks_size v_villages_size o_43.1 o_89.1 o_89.2.1 o_89.2.2.1 o_89.2.2.2.1 o_89.2.2.2.2.1 o_89.2.2.2.2.2.1 w_book_numbers w_rocks_priors w_rocks_chances w_rocks_wet w_rocks_barren w_villages_rocks w_villages_people w_villages_badHoles w_villages_wellPipes w_ways_days o_43.2 o_61.1 o_61.2 o_69 o_89.2.2.2.2.2.2.1 o_89.2.2.2.2.2.2.2.1 o_89.2.2.2.2.2.2.2.2)) ⟨rfl, rfl, rfl, rfl, rfl, rfl, rfl⟩ trivial rfl hl.1 rfl (Nat.le_of_ble_eq_true rfl) dX6_plan_89 hP hD hS (fun H locs hP hD hS => ?_)
          refine lv_aload_n hx hb dX6_plan_92 rfl (lv_at hl 0 rfl) ?_
          refine kget (ci := 6) S hK hP rfl inX6_plan_X6 0 rfl 5 (by decide) lkX6_plan_47 rfl dX6_plan_93 ?_
          obtain ⟨o_96, he, hsh⟩ := bd hsh
          refine kVl (ci := 1) S hK hA (ctX1_worth l D cI cJ cZ q_planner q_planner_gains q_planner_roads q_planner_steps q_planner_worths q_planner_depths q_planner_rivals q_planner_order o_43.1 o_89.1 o_89.2.1 o_89.2.2.1 o_89.2.2.2.1 o_89.2.2.2.2.1 o_89.2.2.2.2.2.1 o_96 he) noE_cl (cwV 0 hts gX6_plan_X1_worth rfl rfl rfl hdX1_worth ⟨Nat.le_of_ble_eq_true rfl, Nat.le_of_ble_eq_true rfl⟩) rfl 0 rfl [15] [0, 1, 2, 3, 4, 5, 6, 7, 8, 9, 10, 11, 12, 13, 14, 16, 17, 18, 19, 20, 21, 22] [0, 1, 2, 3, 4, 5, 6, 7, 8, 9, 10, 11, 12, 13, 14, 22, 15, 16, 17, 18, 19, 20, 21] (ws' := (wdX6_plan cI cJ cZ q_this q_tape q_book q_rocks q_villages q_ways q_planner q_book_numbers q_book_fresh q_book_told q_rocks_priors q_rocks_chances q_rocks_wet q_rocks_barren q_rocks_pipes q_villages_rocks q_villages_people q_villages_badHoles q_villages_wellPipes q_villages_endAges q_villages_runAges q_ways_days q_planner_gains q_planner_roads q_planner_steps q_planner_worths q_planner_depths q_planner_rivals q_planner_order v_rigPlace v_day v_book_faultKind v_book_faultPlace v_book_at v_book_end v_rocks_size v_villages_size o_43.1 o_89.1 o_89.2.1 o_89.2.2.1 o_89.2.2.2.1 o_89.2.2.2.2.1 o_89.2.2.2.2.2.1 w_book_numbers w_rocks_priors w_rocks_chances w_rocks_wet w_rocks_barren w_villages_rocks w_villages_people w_villages_badHoles w_villages_wellPipes w_ways_days o_43.2 o_61.1 o_61.2 o_69 o_89.2.2.2.2.2.2.1 o_89.2.2.2.2.2.2.2.1 o_89.2.2.2.2.2.2.2.2)) ⟨rfl, rfl, rfl, rfl, rfl, rfl, rfl⟩ trivial rfl hl.1 rfl (Nat.le_of_ble_eq_true rfl) dX6_plan_96 hP hD hS (fun H locs hP hD hS => ?_)
          have ho := Option.some.inj hsh
          rw [← ho] at hret
          exact hret _ _ _ _ dX6_plan_99 hP hD hS
        · skip
          have hsh := ite_f hsh c1
          refine lv_ldc2 hx hb hown (v := (-1 : Int64)) (hts _ (List.mem_of_getElem? (i := 1) rfl)) dX6_plan_20 ?_
          have ho := Option.some.inj hsh
          rw [← ho] at hret
          exact hret _ _ _ _ dX6_plan_23 hP hD hS

/-! DryWells.planned -/
noncomputable def shX6_planned (a1 : Int32) (a2 : Int32) (v_planner_made : Int32) (v_planner_pipes : Int32) (v_planner_days : Int32) (v_planner_stops : Int32) (w_planner_depths : Nat → Int32) (w_planner_order : Nat → Int32) : Option (Int32) :=
  ((shX1_tell a1 a2 v_planner_made v_planner_pipes v_planner_days v_planner_stops w_planner_depths w_planner_order).bind fun o_6 => some o_6)
def wdX6_planned (cI cJ cZ : ClassId) (q_this q_tape q_book q_rocks q_villages q_ways q_planner q_planner_gains q_planner_roads q_planner_steps q_planner_worths q_planner_depths q_planner_rivals q_planner_order : Nat) (v_rigPlace : Int32) (v_day : Int32) (v_planner_admitted : Int32) (v_planner_made : Int32) (v_planner_worth : Int64) (v_planner_set : Int32) (v_planner_pipes : Int32) (v_planner_days : Int32) (v_planner_stops : Int32) (w_planner_depths : Nat → Int32) (w_planner_order : Nat → Int32) : va_W := [(q_this, .inr (6, [.ref q_tape, .ref q_book, .ref q_rocks, .ref q_villages, .ref q_ways, .ref q_planner, .int v_rigPlace, .int v_day])), (q_planner, .inr (1, [.int v_planner_admitted, .ref q_planner_gains, .ref q_planner_roads, .ref q_planner_steps, .ref q_planner_worths, .int v_planner_made, .long v_planner_worth, .int v_planner_set, .int v_planner_pipes, .int v_planner_days, .int v_planner_stops, .ref q_planner_depths, .ref q_planner_rivals, .ref q_planner_order])), (q_planner_depths, .inl (cI, 8, .inl w_planner_depths)), (q_planner_order, .inl (cI, 7, .inl w_planner_order))]
abbrev rmX6_planned : Room := { frames := 1, cells := 0, slots := 0, locals := 22 }
theorem inX6_planned_X6 : ∀ w ∈ u_ws RX6 TX6 8, w ∈ wsX6_planned := fun _ h => List.mem_cons_of_mem _ (List.mem_append_left _ (List.mem_append_right _ h))
theorem inX6_planned_X1 : ∀ w ∈ u_ws RX1 TX1 14, w ∈ wsX6_planned := fun _ h => List.mem_cons_of_mem _ (List.mem_append_right _ h)
theorem lkX6_planned_47 : Cond.fieldLink RX6 47 (TX6 5).1 (TX6 5).2.1 (TX6 5).2.2.1 ∈ wsX6_planned := List.mem_of_getElem? (i := 1) rfl
theorem hdX6_planned : yX6_planned.cls = RX6 ∧ yX6_planned.cls ≠ "java/lang/invoke/MethodHandle" ∧ yX6_planned.cls ≠ "java/lang/invoke/VarHandle" ∧ (parseMethodDescriptor yX6_planned.desc).map (fun d => d.parameters.length) = some 2 := by decide +kernel
set_option maxHeartbeats 4000000 in
set_option maxRecDepth 100000 in
theorem ctX6_planned (l : Launch) (D : va_G) (cI cJ cZ : ClassId) (q_this q_tape q_book q_rocks q_villages q_ways q_planner q_planner_gains q_planner_roads q_planner_steps q_planner_worths q_planner_depths q_planner_rivals q_planner_order : Nat) (v_rigPlace : Int32) (v_day : Int32) (v_planner_admitted : Int32) (v_planner_made : Int32) (v_planner_worth : Int64) (v_planner_set : Int32) (v_planner_pipes : Int32) (v_planner_days : Int32) (v_planner_stops : Int32) (w_planner_depths : Nat → Int32) (w_planner_order : Nat → Int32) (a1 : Int32) (a2 : Int32) (o : Int32) (hsh : shX6_planned a1 a2 v_planner_made v_planner_pipes v_planner_days v_planner_stops w_planner_depths w_planner_order = some o) : CtI l yX6_planned wsX6_planned rmX6_planned D (tys3 cI cJ cZ) noE (wdX6_planned cI cJ cZ q_this q_tape q_book q_rocks q_villages q_ways q_planner q_planner_gains q_planner_roads q_planner_steps q_planner_worths q_planner_depths q_planner_rivals q_planner_order v_rigPlace v_day v_planner_admitted v_planner_made v_planner_worth v_planner_set v_planner_pipes v_planner_days v_planner_stops w_planner_depths w_planner_order) [.ref q_this, .int a1, .int a2] o (wdX6_planned cI cJ cZ q_this q_tape q_book q_rocks q_villages q_ways q_planner q_planner_gains q_planner_roads q_planner_steps q_planner_worths q_planner_depths q_planner_rivals q_planner_order v_rigPlace v_day v_planner_admitted v_planner_made v_planner_worth v_planner_set v_planner_pipes v_planner_days v_planner_stops w_planner_depths w_planner_order) := by
  refine ctI plX6 rfl (Nat.le_of_ble_eq_true rfl) ?_
  intro p e s m below meth c A Q S hK hA hE hret H locs hP hD hS ls hl
  replace S : CallFix p m c cX6_planned 3 s _ wsX6_planned RX6 := S
  generalize ([.ref q_this, .int a1, .int a2] : List Value).toArray = args at S hret ⊢
  obtain ⟨hx, hb, hml, hown, hts⟩ := id S
  replace hl : lv_has ls 3 [(0, .ref q_this), (1, .int a1), (2, .int a2)] := hl
  unfold shX6_planned at hsh
  refine lv_aload_n hx hb dX6_planned_0 rfl (lv_at hl 0 rfl) ?_
  refine kget (ci := 6) S hK hP rfl inX6_planned_X6 0 rfl 5 (by decide) lkX6_planned_47 rfl dX6_planned_1 ?_
  refine lv_iload_n hx hb dX6_planned_4 rfl (lv_at hl 1 rfl) ?_
  refine lv_iload_n hx hb dX6_planned_5 rfl (lv_at hl 2 rfl) ?_
  obtain ⟨o_6, he, hsh⟩ := bd hsh
  refine kVi (ci := 1) S hK hA (ctX1_tell l D cI cJ cZ q_planner q_planner_gains q_planner_roads q_planner_steps q_planner_worths q_planner_depths q_planner_rivals q_planner_order v_planner_admitted v_planner_made v_planner_worth v_planner_set v_planner_pipes v_planner_days v_planner_stops w_planner_depths w_planner_order a1 a2 o_6 he) noE_cl (cwV 2 hts gX6_planned_X1_tell rfl rfl rfl hdX1_tell ⟨Nat.le_of_ble_eq_true rfl, Nat.le_of_ble_eq_true rfl⟩) rfl 0 rfl [1, 2, 3] [0] [0, 1, 2, 3] (ws' := (wdX6_planned cI cJ cZ q_this q_tape q_book q_rocks q_villages q_ways q_planner q_planner_gains q_planner_roads q_planner_steps q_planner_worths q_planner_depths q_planner_rivals q_planner_order v_rigPlace v_day v_planner_admitted v_planner_made v_planner_worth v_planner_set v_planner_pipes v_planner_days v_planner_stops w_planner_depths w_planner_order)) ⟨rfl, rfl, rfl, rfl, rfl, rfl, rfl⟩ trivial rfl hl.1 rfl (Nat.le_of_ble_eq_true rfl) dX6_planned_6 hP hD hS (fun H locs hP hD hS => ?_)
  have ho := Option.some.inj hsh
  rw [← ho] at hret
  exact hret _ _ _ _ dX6_planned_9 hP hD hS

/-! DryWells.visit -/
noncomputable def shX6_visit (a1 : Int32) (a2 : Int32) (a3 : Int32) (v_villages_size : Int32) (w_villages_wellPipes : Nat → Int32) (w_villages_endAges : Nat → Int32) (w_villages_runAges : Nat → Int32) : Option (Int32 × (Nat → Int32) × (Nat → Int32)) :=
  ((shX4_has a1 v_villages_size).bind fun o_5 => (if o_5 = 0 then some ((0 : Int32), w_villages_endAges, w_villages_runAges) else ((shX4_hasWell a1 w_villages_wellPipes).bind fun o_16 => (if o_16 = 0 then some ((0 : Int32), w_villages_endAges, w_villages_runAges) else ((shX4_isAge a2).bind fun o_23 => (if ¬ o_23 = 0 then ((shX4_addVisit a1 a2 a3 w_villages_endAges w_villages_runAges).bind fun o_38 => some ((1 : Int32), o_38.1, o_38.2)) else some ((0 : Int32), w_villages_endAges, w_villages_runAges)))))))
def wdX6_visit (cI cJ cZ : ClassId) (q_this q_tape q_book q_rocks q_villages q_ways q_planner q_villages_rocks q_villages_people q_villages_badHoles q_villages_wellPipes q_villages_endAges q_villages_runAges : Nat) (v_rigPlace : Int32) (v_day : Int32) (v_villages_size : Int32) (w_villages_wellPipes : Nat → Int32) (w_villages_endAges : Nat → Int32) (w_villages_runAges : Nat → Int32) : va_W := [(q_this, .inr (6, [.ref q_tape, .ref q_book, .ref q_rocks, .ref q_villages, .ref q_ways, .ref q_planner, .int v_rigPlace, .int v_day])), (q_villages, .inr (4, [.ref q_villages_rocks, .ref q_villages_people, .ref q_villages_badHoles, .ref q_villages_wellPipes, .ref q_villages_endAges, .ref q_villages_runAges, .int v_villages_size])), (q_villages_wellPipes, .inl (cI, 8, .inl w_villages_wellPipes)), (q_villages_endAges, .inl (cI, 8, .inl w_villages_endAges)), (q_villages_runAges, .inl (cI, 8, .inl w_villages_runAges))]
abbrev rmX6_visit : Room := { frames := 2, cells := 0, slots := 0, locals := 46 }
theorem inX6_visit_X6 : ∀ w ∈ u_ws RX6 TX6 8, w ∈ wsX6_visit := fun _ h => List.mem_cons_of_mem _ (List.mem_append_left _ (List.mem_append_right _ h))
theorem inX6_visit_X4 : ∀ w ∈ u_ws RX4 TX4 7, w ∈ wsX6_visit := fun _ h => List.mem_cons_of_mem _ (List.mem_append_right _ h)
theorem lkX6_visit_33 : Cond.fieldLink RX6 33 (TX6 3).1 (TX6 3).2.1 (TX6 3).2.2.1 ∈ wsX6_visit := List.mem_of_getElem? (i := 1) rfl
theorem hdX6_visit : yX6_visit.cls = RX6 ∧ yX6_visit.cls ≠ "java/lang/invoke/MethodHandle" ∧ yX6_visit.cls ≠ "java/lang/invoke/VarHandle" ∧ (parseMethodDescriptor yX6_visit.desc).map (fun d => d.parameters.length) = some 3 := by decide +kernel
set_option maxHeartbeats 4000000 in
set_option maxRecDepth 100000 in
theorem ctX6_visit (l : Launch) (D : va_G) (cI cJ cZ : ClassId) (q_this q_tape q_book q_rocks q_villages q_ways q_planner q_villages_rocks q_villages_people q_villages_badHoles q_villages_wellPipes q_villages_endAges q_villages_runAges : Nat) (v_rigPlace : Int32) (v_day : Int32) (v_villages_size : Int32) (w_villages_wellPipes : Nat → Int32) (w_villages_endAges : Nat → Int32) (w_villages_runAges : Nat → Int32) (a1 : Int32) (a2 : Int32) (a3 : Int32) (o : Int32 × (Nat → Int32) × (Nat → Int32)) (hsh : shX6_visit a1 a2 a3 v_villages_size w_villages_wellPipes w_villages_endAges w_villages_runAges = some o) : CtI l yX6_visit wsX6_visit rmX6_visit D (tys3 cI cJ cZ) noE (wdX6_visit cI cJ cZ q_this q_tape q_book q_rocks q_villages q_ways q_planner q_villages_rocks q_villages_people q_villages_badHoles q_villages_wellPipes q_villages_endAges q_villages_runAges v_rigPlace v_day v_villages_size w_villages_wellPipes w_villages_endAges w_villages_runAges) [.ref q_this, .int a1, .int a2, .int a3] o.1 (wdX6_visit cI cJ cZ q_this q_tape q_book q_rocks q_villages q_ways q_planner q_villages_rocks q_villages_people q_villages_badHoles q_villages_wellPipes q_villages_endAges q_villages_runAges v_rigPlace v_day v_villages_size w_villages_wellPipes o.2.1 o.2.2) := by
  refine ctZ plX6 rfl (Nat.le_of_ble_eq_true rfl) ?_
  intro p e s m below meth c A Q S hK hA hE hret H locs hP hD hS ls hl
  replace S : CallFix p m c cX6_visit 4 s _ wsX6_visit RX6 := S
  generalize ([.ref q_this, .int a1, .int a2, .int a3] : List Value).toArray = args at S hret ⊢
  obtain ⟨hx, hb, hml, hown, hts⟩ := id S
  replace hl : lv_has ls 4 [(0, .ref q_this), (1, .int a1), (2, .int a2), (3, .int a3)] := hl
  unfold shX6_visit at hsh
  refine lv_aload_n hx hb dX6_visit_0 rfl (lv_at hl 0 rfl) ?_
  refine kget (ci := 6) S hK hP rfl inX6_visit_X6 0 rfl 3 (by decide) lkX6_visit_33 rfl dX6_visit_1 ?_
  refine lv_iload_n hx hb dX6_visit_4 rfl (lv_at hl 1 rfl) ?_
  obtain ⟨o_5, he, hsh⟩ := bd hsh
  refine kVi (ci := 4) S hK hA (ctX4_has l D cI cJ cZ q_villages q_villages_rocks q_villages_people q_villages_badHoles q_villages_wellPipes q_villages_endAges q_villages_runAges v_villages_size a1 o_5 he) noE_cl (cwV 1 hts gX6_visit_X4_has rfl rfl rfl hdX4_has ⟨Nat.le_of_ble_eq_true rfl, Nat.le_of_ble_eq_true rfl⟩) rfl 0 rfl [1] [0, 2, 3, 4] [0, 4, 1, 2, 3] (ws' := (wdX6_visit cI cJ cZ q_this q_tape q_book q_rocks q_villages q_ways q_planner q_villages_rocks q_villages_people q_villages_badHoles q_villages_wellPipes q_villages_endAges q_villages_runAges v_rigPlace v_day v_villages_size w_villages_wellPipes w_villages_endAges w_villages_runAges)) ⟨rfl, rfl, rfl, rfl, rfl, rfl, rfl⟩ trivial rfl hl.1 rfl (Nat.le_of_ble_eq_true rfl) dX6_visit_5 hP hD hS (fun H locs hP hD hS => ?_)
  refine lv_if_eq (tgt := 29) hx hb dX6_visit_8 (by decide) (fun c1 => ?_) (fun c1 => ?_)
  · skip
    have hsh := ite_t hsh c1
    refine lv_iconst (v := (0 : Int32)) hx hb dX6_visit_29 (by decide) ?_
    have ho := Option.some.inj hsh
    rw [← ho] at hret
    exact hret _ _ _ _ nar0 dX6_visit_30 hP hD hS
  · skip
    have hsh := ite_f hsh c1
    refine lv_aload_n hx hb dX6_visit_11 rfl (lv_at hl 0 rfl) ?_
    refine kget (ci := 6) S hK hP rfl inX6_visit_X6 0 rfl 3 (by decide) lkX6_visit_33 rfl dX6_visit_12 ?_
    refine lv_iload_n hx hb dX6_visit_15 rfl (lv_at hl 1 rfl) ?_
    obtain ⟨o_16, he, hsh⟩ := bd hsh
    refine kVi (ci := 4) S hK hA (ctX4_hasWell l D cI cJ cZ q_villages q_villages_rocks q_villages_people q_villages_badHoles q_villages_wellPipes q_villages_endAges q_villages_runAges v_villages_size w_villages_wellPipes a1 o_16 he) noE_cl (cwV 1 hts gX6_visit_X4_hasWell rfl rfl rfl hdX4_hasWell ⟨Nat.le_of_ble_eq_true rfl, Nat.le_of_ble_eq_true rfl⟩) rfl 0 rfl [1, 2] [0, 3, 4] [0, 3, 4, 1, 2] (ws' := (wdX6_visit cI cJ cZ q_this q_tape q_book q_rocks q_villages q_ways q_planner q_villages_rocks q_villages_people q_villages_badHoles q_villages_wellPipes q_villages_endAges q_villages_runAges v_rigPlace v_day v_villages_size w_villages_wellPipes w_villages_endAges w_villages_runAges)) ⟨rfl, rfl, rfl, rfl, rfl, rfl, rfl⟩ trivial rfl hl.1 rfl (Nat.le_of_ble_eq_true rfl) dX6_visit_16 hP hD hS (fun H locs hP hD hS => ?_)
    refine lv_if_eq (tgt := 29) hx hb dX6_visit_19 (by decide) (fun c1 => ?_) (fun c1 => ?_)
    · skip
      have hsh := ite_t hsh c1
      refine lv_iconst (v := (0 : Int32)) hx hb dX6_visit_29 (by decide) ?_
      have ho := Option.some.inj hsh
      rw [← ho] at hret
      exact hret _ _ _ _ nar0 dX6_visit_30 hP hD hS
    · skip
      have hsh := ite_f hsh c1
      refine lv_iload_n hx hb dX6_visit_22 rfl (lv_at hl 2 rfl) ?_
      obtain ⟨o_23, he, hsh⟩ := bd hsh
      refine kSi S hK hA (ctX4_isAge l D cI cJ cZ a2 o_23 he) noE_cl (va_cwS 1 hts gX6_visit_X4_isAge rfl rfl rfl hdX4_isAge ⟨Nat.le_of_ble_eq_true rfl, Nat.le_of_ble_eq_true rfl⟩) [] [0, 1, 2, 3, 4] [0, 1, 2, 3, 4] (ws' := (wdX6_visit cI cJ cZ q_this q_tape q_book q_rocks q_villages q_ways q_planner q_villages_rocks q_villages_people q_villages_badHoles q_villages_wellPipes q_villages_endAges q_villages_runAges v_rigPlace v_day v_villages_size w_villages_wellPipes w_villages_endAges w_villages_runAges)) ⟨rfl, rfl, rfl, rfl, rfl, rfl, rfl⟩ trivial rfl hl.1 rfl (Nat.le_of_ble_eq_true rfl) dX6_visit_23 hP hD hS (fun H locs hP hD hS => ?_)
      refine lv_if_ne (tgt := 31) hx hb dX6_visit_26 (by decide) (fun c1 => ?_) (fun c1 => ?_)
      · skip
        have hsh := ite_t hsh c1
        refine lv_aload_n hx hb dX6_visit_31 rfl (lv_at hl 0 rfl) ?_
        refine kget (ci := 6) S hK hP rfl inX6_visit_X6 0 rfl 3 (by decide) lkX6_visit_33 rfl dX6_visit_32 ?_
        refine lv_iload_n hx hb dX6_visit_35 rfl (lv_at hl 1 rfl) ?_
        refine lv_iload_n hx hb dX6_visit_36 rfl (lv_at hl 2 rfl) ?_
        refine lv_iload_n hx hb dX6_visit_37 rfl (lv_at hl 3 rfl) ?_
        obtain ⟨o_38, he, hsh⟩ := bd hsh
        refine kVv (ci := 4) S hK hA (ctX4_addVisit l D cI cJ cZ q_villages q_villages_rocks q_villages_people q_villages_badHoles q_villages_wellPipes q_villages_endAges q_villages_runAges v_villages_size w_villages_endAges w_villages_runAges a1 a2 a3 o_38 he) noE_cl (cwV 3 hts gX6_visit_X4_addVisit rfl rfl rfl hdX4_addVisit ⟨Nat.le_of_ble_eq_true rfl, Nat.le_of_ble_eq_true rfl⟩) rfl 0 rfl [1, 3, 4] [0, 2] [0, 2, 1, 3, 4] (ws' := (wdX6_visit cI cJ cZ q_this q_tape q_book q_rocks q_villages q_ways q_planner q_villages_rocks q_villages_people q_villages_badHoles q_villages_wellPipes q_villages_endAges q_villages_runAges v_rigPlace v_day v_villages_size w_villages_wellPipes o_38.1 o_38.2)) ⟨rfl, rfl, rfl, rfl, rfl, rfl, rfl⟩ trivial rfl hl.1 rfl (Nat.le_of_ble_eq_true rfl) dX6_visit_38 hP hD hS (fun H locs hP hD hS => ?_)
        refine lv_iconst (v := (1 : Int32)) hx hb dX6_visit_41 (by decide) ?_
        have ho := Option.some.inj hsh
        rw [← ho] at hret
        exact hret _ _ _ _ nar1 dX6_visit_42 hP hD hS
      · skip
        have hsh := ite_f hsh (fun h => h c1)
        refine lv_iconst (v := (0 : Int32)) hx hb dX6_visit_29 (by decide) ?_
        have ho := Option.some.inj hsh
        rw [← ho] at hret
        exact hret _ _ _ _ nar0 dX6_visit_30 hP hD hS

/-! DryWells.still -/
noncomputable def shX6_still_j_84 (a2 : Int32) (x3_j_84 : Int64) (x5_j_84 : Int64) : Option (Int64) :=
  ((shX6_leastTerm x3_j_84 x5_j_84 a2).bind fun o_88 => some o_88)
noncomputable def shX6_still_k28_78 (x7_28 : Int32) (x3_k28_78 : Int64) (x5_k28_78 : Int64) : Option ((Int64 × Int64 × Int32) ⊕ ((Int64 × Int64))) :=
  some (Sum.inl (x3_k28_78, x5_k28_78, (x7_28 + (1 : Int32))))
noncomputable def shX6_still_L28 (a1 : Int32) (v_villages_size : Int32) (w_villages_endAges : Nat → Int32) (w_villages_runAges : Nat → Int32) (x3_28 : Int64) (x5_28 : Int64) (x7_28 : Int32) : Option ((Int64 × Int64 × Int32) ⊕ ((Int64 × Int64))) :=
  (if a1 < x7_28 then some (Sum.inr (x3_28, x5_28)) else ((shX4_endsAt x7_28 v_villages_size w_villages_endAges).bind fun o_40 => (if o_40 ≤ 0 then (shX6_still_k28_78 x7_28 x3_28 x5_28) else ((shX4_knownUpTo x7_28 v_villages_size w_villages_endAges w_villages_runAges).bind fun o_56 => (shX6_still_k28_78 x7_28 (x3_28 * ((o_56 - o_40)).toInt64) (x5_28 * (o_56).toInt64))))))
noncomputable def shX6_still (a1 : Int32) (a2 : Int32) (v_villages_size : Int32) (w_villages_endAges : Nat → Int32) (w_villages_runAges : Nat → Int32) : Option (Int64) :=
  ((shX4_isAge a1).bind fun o_1 => (if o_1 = 0 then some (-1 : Int64) else (if a2 < 0 then some (-1 : Int64) else (if a2 ≤ (1 : Int32) then ((lp (fun s : Int64 × Int64 × Int32 => shX6_still_L28 a1 v_villages_size w_villages_endAges w_villages_runAges s.1 s.2.1 s.2.2) ((1 : Int64), (1 : Int64), (1 : Int32))).bind (fun p : Int64 × Int64 => shX6_still_j_84 a2 p.1 p.2)) else some (-1 : Int64)))))
def wdX6_still (cI cJ cZ : ClassId) (q_this q_tape q_book q_rocks q_villages q_ways q_planner q_villages_rocks q_villages_people q_villages_badHoles q_villages_wellPipes q_villages_endAges q_villages_runAges : Nat) (v_rigPlace : Int32) (v_day : Int32) (v_villages_size : Int32) (w_villages_endAges : Nat → Int32) (w_villages_runAges : Nat → Int32) : va_W := [(q_this, .inr (6, [.ref q_tape, .ref q_book, .ref q_rocks, .ref q_villages, .ref q_ways, .ref q_planner, .int v_rigPlace, .int v_day])), (q_villages, .inr (4, [.ref q_villages_rocks, .ref q_villages_people, .ref q_villages_badHoles, .ref q_villages_wellPipes, .ref q_villages_endAges, .ref q_villages_runAges, .int v_villages_size])), (q_villages_endAges, .inl (cI, 8, .inl w_villages_endAges)), (q_villages_runAges, .inl (cI, 8, .inl w_villages_runAges))]
abbrev rmX6_still : Room := { frames := 2, cells := 0, slots := 0, locals := 56 }
theorem inX6_still_X6 : ∀ w ∈ u_ws RX6 TX6 8, w ∈ wsX6_still := fun _ h => List.mem_cons_of_mem _ (List.mem_append_left _ (List.mem_append_right _ h))
theorem inX6_still_X4 : ∀ w ∈ u_ws RX4 TX4 7, w ∈ wsX6_still := fun _ h => List.mem_cons_of_mem _ (List.mem_append_right _ h)
theorem lkX6_still_33 : Cond.fieldLink RX6 33 (TX6 3).1 (TX6 3).2.1 (TX6 3).2.2.1 ∈ wsX6_still := List.mem_of_getElem? (i := 2) rfl
theorem hdX6_still : yX6_still.cls = RX6 ∧ yX6_still.cls ≠ "java/lang/invoke/MethodHandle" ∧ yX6_still.cls ≠ "java/lang/invoke/VarHandle" ∧ (parseMethodDescriptor yX6_still.desc).map (fun d => d.parameters.length) = some 2 := by decide +kernel
set_option maxHeartbeats 4000000 in
set_option maxRecDepth 100000 in
theorem ctX6_still (l : Launch) (D : va_G) (cI cJ cZ : ClassId) (q_this q_tape q_book q_rocks q_villages q_ways q_planner q_villages_rocks q_villages_people q_villages_badHoles q_villages_wellPipes q_villages_endAges q_villages_runAges : Nat) (v_rigPlace : Int32) (v_day : Int32) (v_villages_size : Int32) (w_villages_endAges : Nat → Int32) (w_villages_runAges : Nat → Int32) (a1 : Int32) (a2 : Int32) (o : Int64) (hsh : shX6_still a1 a2 v_villages_size w_villages_endAges w_villages_runAges = some o) : CtL l yX6_still wsX6_still rmX6_still D (tys3 cI cJ cZ) noE (wdX6_still cI cJ cZ q_this q_tape q_book q_rocks q_villages q_ways q_planner q_villages_rocks q_villages_people q_villages_badHoles q_villages_wellPipes q_villages_endAges q_villages_runAges v_rigPlace v_day v_villages_size w_villages_endAges w_villages_runAges) [.ref q_this, .int a1, .int a2] o (wdX6_still cI cJ cZ q_this q_tape q_book q_rocks q_villages q_ways q_planner q_villages_rocks q_villages_people q_villages_badHoles q_villages_wellPipes q_villages_endAges q_villages_runAges v_rigPlace v_day v_villages_size w_villages_endAges w_villages_runAges) := by
  refine ctL plX6 rfl (Nat.le_of_ble_eq_true rfl) ?_
  intro p e s m below meth c A Q S hK hA hE hret H locs hP hD hS ls hl
  replace S : CallFix p m c cX6_still 10 s _ wsX6_still RX6 := S
  generalize ([.ref q_this, .int a1, .int a2] : List Value).toArray = args at S hret ⊢
  obtain ⟨hx, hb, hml, hown, hts⟩ := id S
  replace hl : lv_has ls 10 [(0, .ref q_this), (1, .int a1), (2, .int a2)] := hl
  unfold shX6_still at hsh
  have Jj_84 : ∀ (x3_j_84 : Int64) (x5_j_84 : Int64) (H : Heap) (locs : List Loc), va_P D vwCl (wdX6_still cI cJ cZ q_this q_tape q_book q_rocks q_villages q_ways q_planner q_villages_rocks q_villages_people q_villages_badHoles q_villages_wellPipes q_villages_endAges q_villages_runAges v_rigPlace v_day v_villages_size w_villages_endAges w_villages_runAges) H → va_D A (wdX6_still cI cJ cZ q_this q_tape q_book q_rocks q_villages q_ways q_planner q_villages_rocks q_villages_people q_villages_badHoles q_villages_wellPipes q_villages_endAges q_villages_runAges v_rigPlace v_day v_villages_size w_villages_endAges w_villages_runAges) → va_S A s.heap H locs → ∀ ls : Array Slot, lv_has ls 10 [(2, .int a2), (3, .long x3_j_84), (5, .long x5_j_84)] → shX6_still_j_84 a2 x3_j_84 x5_j_84 = some o → W p l e rmX6_still s m args below meth c H locs 0 0 Q (F0 m 84 ls []) := by
    intro x3_j_84 x5_j_84 H locs hP hD hS ls hl hsh
    unfold shX6_still_j_84 at hsh
    refine lv_lload_n hx hb dX6_still_84 rfl (lv_at hl 1 rfl) ?_
    refine lv_lload hx hb dX6_still_85 (lv_at hl 2 rfl) ?_
    refine lv_iload_n hx hb dX6_still_87 rfl (lv_at hl 0 rfl) ?_
    obtain ⟨o_88, he, hsh⟩ := bd hsh
    refine kSl S hK hA (ctX6_leastTerm l D cI cJ cZ x3_j_84 x5_j_84 a2 o_88 he) noE_cl (va_cwS 3 hts gX6_still_X6_leastTerm rfl rfl rfl hdX6_leastTerm ⟨Nat.le_of_ble_eq_true rfl, Nat.le_of_ble_eq_true rfl⟩) [] [0, 1, 2, 3] [0, 1, 2, 3] (ws' := (wdX6_still cI cJ cZ q_this q_tape q_book q_rocks q_villages q_ways q_planner q_villages_rocks q_villages_people q_villages_badHoles q_villages_wellPipes q_villages_endAges q_villages_runAges v_rigPlace v_day v_villages_size w_villages_endAges w_villages_runAges)) ⟨rfl, rfl, rfl, rfl, rfl, rfl, rfl⟩ trivial rfl hl.1 rfl (Nat.le_of_ble_eq_true rfl) dX6_still_88 hP hD hS (fun H locs hP hD hS => ?_)
    have ho := Option.some.inj hsh
    rw [← ho] at hret
    exact hret _ _ _ _ dX6_still_91 hP hD hS
  refine lv_iload_n hx hb dX6_still_0 rfl (lv_at hl 1 rfl) ?_
  obtain ⟨o_1, he, hsh⟩ := bd hsh
  refine kSi S hK hA (ctX4_isAge l D cI cJ cZ a1 o_1 he) noE_cl (va_cwS 1 hts gX6_still_X4_isAge rfl rfl rfl hdX4_isAge ⟨Nat.le_of_ble_eq_true rfl, Nat.le_of_ble_eq_true rfl⟩) [] [0, 1, 2, 3] [0, 1, 2, 3] (ws' := (wdX6_still cI cJ cZ q_this q_tape q_book q_rocks q_villages q_ways q_planner q_villages_rocks q_villages_people q_villages_badHoles q_villages_wellPipes q_villages_endAges q_villages_runAges v_rigPlace v_day v_villages_size w_villages_endAges w_villages_runAges)) ⟨rfl, rfl, rfl, rfl, rfl, rfl, rfl⟩ trivial rfl hl.1 rfl (Nat.le_of_ble_eq_true rfl) dX6_still_1 hP hD hS (fun H locs hP hD hS => ?_)
  refine lv_if_eq (tgt := 16) hx hb dX6_still_4 (by decide) (fun c1 => ?_) (fun c1 => ?_)
  · skip
    have hsh := ite_t hsh c1
    refine lv_ldc2 hx hb hown (v := (-1 : Int64)) (hts _ (List.mem_of_getElem? (i := 1) rfl)) dX6_still_16 ?_
    have ho := Option.some.inj hsh
    rw [← ho] at hret
    exact hret _ _ _ _ dX6_still_19 hP hD hS
  · skip
    have hsh := ite_f hsh c1
    refine lv_iload_n hx hb dX6_still_7 rfl (lv_at hl 2 rfl) ?_
    refine lv_if_lt (tgt := 16) hx hb dX6_still_8 (by decide) (fun c1 => ?_) (fun c1 => ?_)
    · skip
      have hsh := ite_t hsh c1
      refine lv_ldc2 hx hb hown (v := (-1 : Int64)) (hts _ (List.mem_of_getElem? (i := 1) rfl)) dX6_still_16 ?_
      have ho := Option.some.inj hsh
      rw [← ho] at hret
      exact hret _ _ _ _ dX6_still_19 hP hD hS
    · skip
      have hsh := ite_f hsh c1
      refine lv_iload_n hx hb dX6_still_11 rfl (lv_at hl 2 rfl) ?_
      refine lv_iconst (v := (1 : Int32)) hx hb dX6_still_12 (by decide) ?_
      refine lv_icmp_le (tgt := 20) hx hb dX6_still_13 (by decide) (fun c1 => ?_) (fun c1 => ?_)
      · skip
        have hsh := ite_t hsh c1
        refine lv_lconst (v := (1 : Int64)) hx hb dX6_still_20 (by decide) ?_
        refine lv_lstore_n (lv' := [(3, .long (1 : Int64)), (0, .ref q_this), (1, .int a1), (2, .int a2)]) hx hb dX6_still_21 rfl hl (by decide) rfl (fun ls hl => ?_)
        refine lv_lconst (v := (1 : Int64)) hx hb dX6_still_22 (by decide) ?_
        refine lv_lstore (lv' := [(5, .long (1 : Int64)), (3, .long (1 : Int64)), (0, .ref q_this), (1, .int a1), (2, .int a2)]) hx hb dX6_still_23 hl (by decide) rfl (fun ls hl => ?_)
        refine lv_iconst (v := (1 : Int32)) hx hb dX6_still_25 (by decide) ?_
        refine lv_istore (lv' := [(7, .int (1 : Int32)), (5, .long (1 : Int64)), (3, .long (1 : Int64)), (0, .ref q_this), (1, .int a1), (2, .int a2)]) hx hb dX6_still_26 hl (by decide) rfl (fun ls hl => ?_)
        obtain ⟨r_28, hl_28, hk_28⟩ := bd hsh
        obtain ⟨n_28, hn_28⟩ := lp_iff.mp hl_28
        have L_28 : ∀ (n : Nat) (x3_28 : Int64) (x5_28 : Int64) (x7_28 : Int32) (H : Heap) (locs : List Loc), va_P D vwCl (wdX6_still cI cJ cZ q_this q_tape q_book q_rocks q_villages q_ways q_planner q_villages_rocks q_villages_people q_villages_badHoles q_villages_wellPipes q_villages_endAges q_villages_runAges v_rigPlace v_day v_villages_size w_villages_endAges w_villages_runAges) H → va_D A (wdX6_still cI cJ cZ q_this q_tape q_book q_rocks q_villages q_ways q_planner q_villages_rocks q_villages_people q_villages_badHoles q_villages_wellPipes q_villages_endAges q_villages_runAges v_rigPlace v_day v_villages_size w_villages_endAges w_villages_runAges) → va_S A s.heap H locs → ∀ ls : Array Slot, lv_has ls 10 [(0, .ref q_this), (1, .int a1), (2, .int a2), (3, .long x3_28), (5, .long x5_28), (7, .int x7_28)] → it (fun s : Int64 × Int64 × Int32 => shX6_still_L28 a1 v_villages_size w_villages_endAges w_villages_runAges s.1 s.2.1 s.2.2) n (x3_28, x5_28, x7_28) = some r_28 → W p l e rmX6_still s m args below meth c H locs 0 0 Q (F0 m 28 ls []) := by
          intro n
          induction n with
          | zero => exact fun _ _ _ _ _ _ _ _ _ _ hi => it_0 hi
          | succ n ih_28 =>
            intro x3_28 x5_28 x7_28 H locs hP hD hS ls hl hi
            obtain ⟨b_28, hsh, hB1_28, hB2_28⟩ := it_b hi
            replace hsh : shX6_still_L28 a1 v_villages_size w_villages_endAges w_villages_runAges x3_28 x5_28 x7_28 = some b_28 := hsh
            unfold shX6_still_L28 at hsh
            have Jk28_78 : ∀ (x3_k28_78 : Int64) (x5_k28_78 : Int64) (H : Heap) (locs : List Loc), va_P D vwCl (wdX6_still cI cJ cZ q_this q_tape q_book q_rocks q_villages q_ways q_planner q_villages_rocks q_villages_people q_villages_badHoles q_villages_wellPipes q_villages_endAges q_villages_runAges v_rigPlace v_day v_villages_size w_villages_endAges w_villages_runAges) H → va_D A (wdX6_still cI cJ cZ q_this q_tape q_book q_rocks q_villages q_ways q_planner q_villages_rocks q_villages_people q_villages_badHoles q_villages_wellPipes q_villages_endAges q_villages_runAges v_rigPlace v_day v_villages_size w_villages_endAges w_villages_runAges) → va_S A s.heap H locs → ∀ ls : Array Slot, lv_has ls 10 [(0, .ref q_this), (1, .int a1), (2, .int a2), (3, .long x3_k28_78), (5, .long x5_k28_78), (7, .int x7_28)] → shX6_still_k28_78 x7_28 x3_k28_78 x5_k28_78 = some b_28 → W p l e rmX6_still s m args below meth c H locs 0 0 Q (F0 m 78 ls []) := by
              intro x3_k28_78 x5_k28_78 H locs hP hD hS ls hl hsh
              unfold shX6_still_k28_78 at hsh
              refine lv_iinc (v := (x7_28 + (1 : Int32))) (lv' := [(7, .int (x7_28 + (1 : Int32))), (0, .ref q_this), (1, .int a1), (2, .int a2), (3, .long x3_k28_78), (5, .long x5_k28_78)]) hx hb dX6_still_78 hl (k := 5) rfl (congrArg (fun z : Int32 => x7_28 + z) (by decide)) (by decide) rfl (fun ls hl => ?_)
              refine lv_goto (tgt := 28) hx hb dX6_still_81 (by decide) ?_
              exact ih_28 x3_k28_78 x5_k28_78 (x7_28 + (1 : Int32)) H locs hP hD hS ls (lv_sub hl [1, 2, 3, 4, 5, 0] rfl) (hB1_28 _ hsh)
            refine lv_iload hx hb dX6_still_28 (lv_at hl 5 rfl) ?_
            refine lv_iload_n hx hb dX6_still_30 rfl (lv_at hl 1 rfl) ?_
            refine lv_icmp_gt (tgt := 84) hx hb dX6_still_31 (by decide) (fun c1 => ?_) (fun c1 => ?_)
            · skip
              have hsh := ite_t hsh c1
              have he := hB2_28 _ hsh
              rw [← he] at hk_28
              exact Jj_84 x3_28 x5_28 H locs hP hD hS ls (lv_sub hl [2, 3, 4] rfl) hk_28
            · skip
              have hsh := ite_f hsh c1
              refine lv_aload_n hx hb dX6_still_34 rfl (lv_at hl 0 rfl) ?_
              refine kget (ci := 6) S hK hP rfl inX6_still_X6 0 rfl 3 (by decide) lkX6_still_33 rfl dX6_still_35 ?_
              refine lv_iload hx hb dX6_still_38 (lv_at hl 5 rfl) ?_
              obtain ⟨o_40, he, hsh⟩ := bd hsh
              refine kVi (ci := 4) S hK hA (ctX4_endsAt l D cI cJ cZ q_villages q_villages_rocks q_villages_people q_villages_badHoles q_villages_wellPipes q_villages_endAges q_villages_runAges v_villages_size w_villages_endAges x7_28 o_40 he) noE_cl (cwV 1 hts gX6_still_X4_endsAt rfl rfl rfl hdX4_endsAt ⟨Nat.le_of_ble_eq_true rfl, Nat.le_of_ble_eq_true rfl⟩) rfl 0 rfl [1, 2] [0, 3] [0, 2, 3, 1] (ws' := (wdX6_still cI cJ cZ q_this q_tape q_book q_rocks q_villages q_ways q_planner q_villages_rocks q_villages_people q_villages_badHoles q_villages_wellPipes q_villages_endAges q_villages_runAges v_rigPlace v_day v_villages_size w_villages_endAges w_villages_runAges)) ⟨rfl, rfl, rfl, rfl, rfl, rfl, rfl⟩ trivial rfl hl.1 rfl (Nat.le_of_ble_eq_true rfl) dX6_still_40 hP hD hS (fun H locs hP hD hS => ?_)
              refine lv_istore (lv' := [(8, .int o_40), (0, .ref q_this), (1, .int a1), (2, .int a2), (3, .long x3_28), (5, .long x5_28), (7, .int x7_28)]) hx hb dX6_still_43 hl (by decide) rfl (fun ls hl => ?_)
              refine lv_iload hx hb dX6_still_45 (lv_at hl 0 rfl) ?_
              refine lv_if_le (tgt := 78) hx hb dX6_still_47 (by decide) (fun c1 => ?_) (fun c1 => ?_)
              · skip
                have hsh := ite_t hsh c1
                exact Jk28_78 x3_28 x5_28 H locs hP hD hS ls (lv_sub hl [1, 2, 3, 4, 5, 6] rfl) hsh
              · skip
                have hsh := ite_f hsh c1
                refine lv_aload_n hx hb dX6_still_50 rfl (lv_at hl 1 rfl) ?_
                refine kget (ci := 6) S hK hP rfl inX6_still_X6 0 rfl 3 (by decide) lkX6_still_33 rfl dX6_still_51 ?_
                refine lv_iload hx hb dX6_still_54 (lv_at hl 6 rfl) ?_
                obtain ⟨o_56, he, hsh⟩ := bd hsh
                refine kVi (ci := 4) S hK hA (ctX4_knownUpTo l D cI cJ cZ q_villages q_villages_rocks q_villages_people q_villages_badHoles q_villages_wellPipes q_villages_endAges q_villages_runAges v_villages_size w_villages_endAges w_villages_runAges x7_28 o_56 he) noE_cl (cwV 1 hts gX6_still_X4_knownUpTo rfl rfl rfl hdX4_knownUpTo ⟨Nat.le_of_ble_eq_true rfl, Nat.le_of_ble_eq_true rfl⟩) rfl 0 rfl [1, 2, 3] [0] [0, 1, 2, 3] (ws' := (wdX6_still cI cJ cZ q_this q_tape q_book q_rocks q_villages q_ways q_planner q_villages_rocks q_villages_people q_villages_badHoles q_villages_wellPipes q_villages_endAges q_villages_runAges v_rigPlace v_day v_villages_size w_villages_endAges w_villages_runAges)) ⟨rfl, rfl, rfl, rfl, rfl, rfl, rfl⟩ trivial rfl hl.1 rfl (Nat.le_of_ble_eq_true rfl) dX6_still_56 hP hD hS (fun H locs hP hD hS => ?_)
                refine lv_istore (lv' := [(9, .int o_56), (8, .int o_40), (0, .ref q_this), (1, .int a1), (2, .int a2), (3, .long x3_28), (5, .long x5_28), (7, .int x7_28)]) hx hb dX6_still_59 hl (by decide) rfl (fun ls hl => ?_)
                refine lv_lload_n hx hb dX6_still_61 rfl (lv_at hl 5 rfl) ?_
                refine lv_iload hx hb dX6_still_62 (lv_at hl 0 rfl) ?_
                refine lv_iload hx hb dX6_still_64 (lv_at hl 1 rfl) ?_
                refine lv_isub hx hb dX6_still_66 ?_
                refine lv_i2l hx hb dX6_still_67 rfl ?_
                refine lv_lmul hx hb dX6_still_68 ?_
                refine lv_lstore_n (lv' := [(3, .long (x3_28 * ((o_56 - o_40)).toInt64)), (9, .int o_56), (8, .int o_40), (0, .ref q_this), (1, .int a1), (2, .int a2), (5, .long x5_28), (7, .int x7_28)]) hx hb dX6_still_69 rfl hl (by decide) rfl (fun ls hl => ?_)
                refine lv_lload hx hb dX6_still_70 (lv_at hl 6 rfl) ?_
                refine lv_iload hx hb dX6_still_72 (lv_at hl 1 rfl) ?_
                refine lv_i2l hx hb dX6_still_74 rfl ?_
                refine lv_lmul hx hb dX6_still_75 ?_
                refine lv_lstore (lv' := [(5, .long (x5_28 * (o_56).toInt64)), (3, .long (x3_28 * ((o_56 - o_40)).toInt64)), (9, .int o_56), (8, .int o_40), (0, .ref q_this), (1, .int a1), (2, .int a2), (7, .int x7_28)]) hx hb dX6_still_76 hl (by decide) rfl (fun ls hl => ?_)
                exact Jk28_78 (x3_28 * ((o_56 - o_40)).toInt64) (x5_28 * (o_56).toInt64) H locs hP hD hS ls (lv_sub hl [4, 5, 6, 1, 0, 7] rfl) hsh
        exact L_28 n_28 (1 : Int64) (1 : Int64) (1 : Int32) H locs hP hD hS ls (lv_sub hl [3, 4, 5, 2, 1, 0] rfl) hn_28
      · skip
        have hsh := ite_f hsh c1
        refine lv_ldc2 hx hb hown (v := (-1 : Int64)) (hts _ (List.mem_of_getElem? (i := 1) rfl)) dX6_still_16 ?_
        have ho := Option.some.inj hsh
        rw [← ho] at hret
        exact hret _ _ _ _ dX6_still_19 hP hD hS

/-! DryWells.count -/
noncomputable def shX6_count (a1 : Int32) (v_rigPlace : Int32) (v_day : Int32) (v_rocks_size : Int32) (w_rocks_pipes : Nat → Int32) (v_villages_size : Int32) (w_villages_people : Nat → Int32) (w_villages_wellPipes : Nat → Int32) : Option (Int32) :=
  (if a1 = (0 : Int32) then ((shX2_size v_rocks_size).bind fun o_44 => some o_44) else (if a1 = (1 : Int32) then ((shX4_size v_villages_size).bind fun o_52 => some o_52) else (if a1 = (2 : Int32) then some v_day else (if a1 = (3 : Int32) then some v_rigPlace else (if a1 = (4 : Int32) then ((shX4_peopleWithWater v_villages_size w_villages_people w_villages_wellPipes).bind fun o_70 => some o_70) else (if a1 = (5 : Int32) then ((shX2_allPipes v_rocks_size w_rocks_pipes).bind fun o_78 => some o_78) else some (-1 : Int32)))))))
def wdX6_count (cI cJ cZ : ClassId) (q_this q_tape q_book q_rocks q_villages q_ways q_planner q_rocks_priors q_rocks_chances q_rocks_wet q_rocks_barren q_rocks_pipes q_villages_rocks q_villages_people q_villages_badHoles q_villages_wellPipes q_villages_endAges q_villages_runAges : Nat) (v_rigPlace : Int32) (v_day : Int32) (v_rocks_size : Int32) (v_villages_size : Int32) (w_rocks_pipes : Nat → Int32) (w_villages_people : Nat → Int32) (w_villages_wellPipes : Nat → Int32) : va_W := [(q_this, .inr (6, [.ref q_tape, .ref q_book, .ref q_rocks, .ref q_villages, .ref q_ways, .ref q_planner, .int v_rigPlace, .int v_day])), (q_rocks, .inr (2, [.ref q_rocks_priors, .ref q_rocks_chances, .ref q_rocks_wet, .ref q_rocks_barren, .ref q_rocks_pipes, .int v_rocks_size])), (q_rocks_pipes, .inl (cI, 4, .inl w_rocks_pipes)), (q_villages, .inr (4, [.ref q_villages_rocks, .ref q_villages_people, .ref q_villages_badHoles, .ref q_villages_wellPipes, .ref q_villages_endAges, .ref q_villages_runAges, .int v_villages_size])), (q_villages_people, .inl (cI, 8, .inl w_villages_people)), (q_villages_wellPipes, .inl (cI, 8, .inl w_villages_wellPipes))]
abbrev rmX6_count : Room := { frames := 2, cells := 0, slots := 0, locals := 43 }
theorem inX6_count_X6 : ∀ w ∈ u_ws RX6 TX6 8, w ∈ wsX6_count := fun _ h => List.mem_cons_of_mem _ (List.mem_append_left _ (List.mem_append_left _ (List.mem_append_right _ h)))
theorem inX6_count_X2 : ∀ w ∈ u_ws RX2 TX2 6, w ∈ wsX6_count := fun _ h => List.mem_cons_of_mem _ (List.mem_append_left _ (List.mem_append_right _ h))
theorem inX6_count_X4 : ∀ w ∈ u_ws RX4 TX4 7, w ∈ wsX6_count := fun _ h => List.mem_cons_of_mem _ (List.mem_append_right _ h)
theorem lkX6_count_26 : Cond.fieldLink RX6 26 (TX6 2).1 (TX6 2).2.1 (TX6 2).2.2.1 ∈ wsX6_count := List.mem_of_getElem? (i := 1) rfl
theorem lkX6_count_33 : Cond.fieldLink RX6 33 (TX6 3).1 (TX6 3).2.1 (TX6 3).2.2.1 ∈ wsX6_count := List.mem_of_getElem? (i := 2) rfl
theorem lkX6_count_55 : Cond.fieldLink RX6 55 (TX6 7).1 (TX6 7).2.1 (TX6 7).2.2.1 ∈ wsX6_count := List.mem_of_getElem? (i := 3) rfl
theorem lkX6_count_51 : Cond.fieldLink RX6 51 (TX6 6).1 (TX6 6).2.1 (TX6 6).2.2.1 ∈ wsX6_count := List.mem_of_getElem? (i := 4) rfl
theorem hdX6_count : yX6_count.cls = RX6 ∧ yX6_count.cls ≠ "java/lang/invoke/MethodHandle" ∧ yX6_count.cls ≠ "java/lang/invoke/VarHandle" ∧ (parseMethodDescriptor yX6_count.desc).map (fun d => d.parameters.length) = some 1 := by decide +kernel
set_option maxHeartbeats 4000000 in
set_option maxRecDepth 100000 in
theorem ctX6_count (l : Launch) (D : va_G) (cI cJ cZ : ClassId) (q_this q_tape q_book q_rocks q_villages q_ways q_planner q_rocks_priors q_rocks_chances q_rocks_wet q_rocks_barren q_rocks_pipes q_villages_rocks q_villages_people q_villages_badHoles q_villages_wellPipes q_villages_endAges q_villages_runAges : Nat) (v_rigPlace : Int32) (v_day : Int32) (v_rocks_size : Int32) (v_villages_size : Int32) (w_rocks_pipes : Nat → Int32) (w_villages_people : Nat → Int32) (w_villages_wellPipes : Nat → Int32) (a1 : Int32) (o : Int32) (hsh : shX6_count a1 v_rigPlace v_day v_rocks_size w_rocks_pipes v_villages_size w_villages_people w_villages_wellPipes = some o) : CtI l yX6_count wsX6_count rmX6_count D (tys3 cI cJ cZ) noE (wdX6_count cI cJ cZ q_this q_tape q_book q_rocks q_villages q_ways q_planner q_rocks_priors q_rocks_chances q_rocks_wet q_rocks_barren q_rocks_pipes q_villages_rocks q_villages_people q_villages_badHoles q_villages_wellPipes q_villages_endAges q_villages_runAges v_rigPlace v_day v_rocks_size v_villages_size w_rocks_pipes w_villages_people w_villages_wellPipes) [.ref q_this, .int a1] o (wdX6_count cI cJ cZ q_this q_tape q_book q_rocks q_villages q_ways q_planner q_rocks_priors q_rocks_chances q_rocks_wet q_rocks_barren q_rocks_pipes q_villages_rocks q_villages_people q_villages_badHoles q_villages_wellPipes q_villages_endAges q_villages_runAges v_rigPlace v_day v_rocks_size v_villages_size w_rocks_pipes w_villages_people w_villages_wellPipes) := by
  refine ctI plX6 rfl (Nat.le_of_ble_eq_true rfl) ?_
  intro p e s m below meth c A Q S hK hA hE hret H locs hP hD hS ls hl
  replace S : CallFix p m c cX6_count 2 s _ wsX6_count RX6 := S
  generalize ([.ref q_this, .int a1] : List Value).toArray = args at S hret ⊢
  obtain ⟨hx, hb, hml, hown, hts⟩ := id S
  replace hl : lv_has ls 2 [(0, .ref q_this), (1, .int a1)] := hl
  unfold shX6_count at hsh
  refine lv_iload_n hx hb dX6_count_0 rfl (lv_at hl 1 rfl) ?_
  by_cases c_0 : a1 = (0 : Int32)
  · have hsh := ite_t hsh c_0
    refine lv_tableIn (tgt := 40) hx hb dX6_count_1 (by rw [c_0]; decide) (by rw [c_0]; decide) (by rw [c_0]; rfl) (by decide) ?_
    refine lv_aload_n hx hb dX6_count_40 rfl (lv_at hl 0 rfl) ?_
    refine kget (ci := 6) S hK hP rfl inX6_count_X6 0 rfl 2 (by decide) lkX6_count_26 rfl dX6_count_41 ?_
    obtain ⟨o_44, he, hsh⟩ := bd hsh
    refine kVi (ci := 2) S hK hA (ctX2_size l D cI cJ cZ q_rocks q_rocks_priors q_rocks_chances q_rocks_wet q_rocks_barren q_rocks_pipes v_rocks_size o_44 he) noE_cl (cwV 0 hts gX6_count_X2_size rfl rfl rfl hdX2_size ⟨Nat.le_of_ble_eq_true rfl, Nat.le_of_ble_eq_true rfl⟩) rfl 0 rfl [1] [0, 2, 3, 4, 5] [0, 5, 1, 2, 3, 4] (ws' := (wdX6_count cI cJ cZ q_this q_tape q_book q_rocks q_villages q_ways q_planner q_rocks_priors q_rocks_chances q_rocks_wet q_rocks_barren q_rocks_pipes q_villages_rocks q_villages_people q_villages_badHoles q_villages_wellPipes q_villages_endAges q_villages_runAges v_rigPlace v_day v_rocks_size v_villages_size w_rocks_pipes w_villages_people w_villages_wellPipes)) ⟨rfl, rfl, rfl, rfl, rfl, rfl, rfl⟩ trivial rfl hl.1 rfl (Nat.le_of_ble_eq_true rfl) dX6_count_44 hP hD hS (fun H locs hP hD hS => ?_)
    have ho := Option.some.inj hsh
    rw [← ho] at hret
    exact hret _ _ _ _ dX6_count_47 hP hD hS
  have hsh := ite_f hsh c_0
  by_cases c_1 : a1 = (1 : Int32)
  · have hsh := ite_t hsh c_1
    refine lv_tableIn (tgt := 48) hx hb dX6_count_1 (by rw [c_1]; decide) (by rw [c_1]; decide) (by rw [c_1]; rfl) (by decide) ?_
    refine lv_aload_n hx hb dX6_count_48 rfl (lv_at hl 0 rfl) ?_
    refine kget (ci := 6) S hK hP rfl inX6_count_X6 0 rfl 3 (by decide) lkX6_count_33 rfl dX6_count_49 ?_
    obtain ⟨o_52, he, hsh⟩ := bd hsh
    refine kVi (ci := 4) S hK hA (ctX4_size l D cI cJ cZ q_villages q_villages_rocks q_villages_people q_villages_badHoles q_villages_wellPipes q_villages_endAges q_villages_runAges v_villages_size o_52 he) noE_cl (cwV 0 hts gX6_count_X4_size rfl rfl rfl hdX4_size ⟨Nat.le_of_ble_eq_true rfl, Nat.le_of_ble_eq_true rfl⟩) rfl 0 rfl [3] [0, 1, 2, 4, 5] [0, 1, 2, 5, 3, 4] (ws' := (wdX6_count cI cJ cZ q_this q_tape q_book q_rocks q_villages q_ways q_planner q_rocks_priors q_rocks_chances q_rocks_wet q_rocks_barren q_rocks_pipes q_villages_rocks q_villages_people q_villages_badHoles q_villages_wellPipes q_villages_endAges q_villages_runAges v_rigPlace v_day v_rocks_size v_villages_size w_rocks_pipes w_villages_people w_villages_wellPipes)) ⟨rfl, rfl, rfl, rfl, rfl, rfl, rfl⟩ trivial rfl hl.1 rfl (Nat.le_of_ble_eq_true rfl) dX6_count_52 hP hD hS (fun H locs hP hD hS => ?_)
    have ho := Option.some.inj hsh
    rw [← ho] at hret
    exact hret _ _ _ _ dX6_count_55 hP hD hS
  have hsh := ite_f hsh c_1
  by_cases c_2 : a1 = (2 : Int32)
  · have hsh := ite_t hsh c_2
    refine lv_tableIn (tgt := 56) hx hb dX6_count_1 (by rw [c_2]; decide) (by rw [c_2]; decide) (by rw [c_2]; rfl) (by decide) ?_
    refine lv_aload_n hx hb dX6_count_56 rfl (lv_at hl 0 rfl) ?_
    refine kget (ci := 6) S hK hP rfl inX6_count_X6 0 rfl 7 (by decide) lkX6_count_55 rfl dX6_count_57 ?_
    have ho := Option.some.inj hsh
    rw [← ho] at hret
    exact hret _ _ _ _ dX6_count_60 hP hD hS
  have hsh := ite_f hsh c_2
  by_cases c_3 : a1 = (3 : Int32)
  · have hsh := ite_t hsh c_3
    refine lv_tableIn (tgt := 61) hx hb dX6_count_1 (by rw [c_3]; decide) (by rw [c_3]; decide) (by rw [c_3]; rfl) (by decide) ?_
    refine lv_aload_n hx hb dX6_count_61 rfl (lv_at hl 0 rfl) ?_
    refine kget (ci := 6) S hK hP rfl inX6_count_X6 0 rfl 6 (by decide) lkX6_count_51 rfl dX6_count_62 ?_
    have ho := Option.some.inj hsh
    rw [← ho] at hret
    exact hret _ _ _ _ dX6_count_65 hP hD hS
  have hsh := ite_f hsh c_3
  by_cases c_4 : a1 = (4 : Int32)
  · have hsh := ite_t hsh c_4
    refine lv_tableIn (tgt := 66) hx hb dX6_count_1 (by rw [c_4]; decide) (by rw [c_4]; decide) (by rw [c_4]; rfl) (by decide) ?_
    refine lv_aload_n hx hb dX6_count_66 rfl (lv_at hl 0 rfl) ?_
    refine kget (ci := 6) S hK hP rfl inX6_count_X6 0 rfl 3 (by decide) lkX6_count_33 rfl dX6_count_67 ?_
    obtain ⟨o_70, he, hsh⟩ := bd hsh
    refine kVi (ci := 4) S hK hA (ctX4_peopleWithWater l D cI cJ cZ q_villages q_villages_rocks q_villages_people q_villages_badHoles q_villages_wellPipes q_villages_endAges q_villages_runAges v_villages_size w_villages_people w_villages_wellPipes o_70 he) noE_cl (cwV 0 hts gX6_count_X4_peopleWithWater rfl rfl rfl hdX4_peopleWithWater ⟨Nat.le_of_ble_eq_true rfl, Nat.le_of_ble_eq_true rfl⟩) rfl 0 rfl [3, 4, 5] [0, 1, 2] [0, 1, 2, 3, 4, 5] (ws' := (wdX6_count cI cJ cZ q_this q_tape q_book q_rocks q_villages q_ways q_planner q_rocks_priors q_rocks_chances q_rocks_wet q_rocks_barren q_rocks_pipes q_villages_rocks q_villages_people q_villages_badHoles q_villages_wellPipes q_villages_endAges q_villages_runAges v_rigPlace v_day v_rocks_size v_villages_size w_rocks_pipes w_villages_people w_villages_wellPipes)) ⟨rfl, rfl, rfl, rfl, rfl, rfl, rfl⟩ trivial rfl hl.1 rfl (Nat.le_of_ble_eq_true rfl) dX6_count_70 hP hD hS (fun H locs hP hD hS => ?_)
    have ho := Option.some.inj hsh
    rw [← ho] at hret
    exact hret _ _ _ _ dX6_count_73 hP hD hS
  have hsh := ite_f hsh c_4
  by_cases c_5 : a1 = (5 : Int32)
  · have hsh := ite_t hsh c_5
    refine lv_tableIn (tgt := 74) hx hb dX6_count_1 (by rw [c_5]; decide) (by rw [c_5]; decide) (by rw [c_5]; rfl) (by decide) ?_
    refine lv_aload_n hx hb dX6_count_74 rfl (lv_at hl 0 rfl) ?_
    refine kget (ci := 6) S hK hP rfl inX6_count_X6 0 rfl 2 (by decide) lkX6_count_26 rfl dX6_count_75 ?_
    obtain ⟨o_78, he, hsh⟩ := bd hsh
    refine kVi (ci := 2) S hK hA (ctX2_allPipes l D cI cJ cZ q_rocks q_rocks_priors q_rocks_chances q_rocks_wet q_rocks_barren q_rocks_pipes v_rocks_size w_rocks_pipes o_78 he) noE_cl (cwV 0 hts gX6_count_X2_allPipes rfl rfl rfl hdX2_allPipes ⟨Nat.le_of_ble_eq_true rfl, Nat.le_of_ble_eq_true rfl⟩) rfl 0 rfl [1, 2] [0, 3, 4, 5] [0, 4, 5, 1, 2, 3] (ws' := (wdX6_count cI cJ cZ q_this q_tape q_book q_rocks q_villages q_ways q_planner q_rocks_priors q_rocks_chances q_rocks_wet q_rocks_barren q_rocks_pipes q_villages_rocks q_villages_people q_villages_badHoles q_villages_wellPipes q_villages_endAges q_villages_runAges v_rigPlace v_day v_rocks_size v_villages_size w_rocks_pipes w_villages_people w_villages_wellPipes)) ⟨rfl, rfl, rfl, rfl, rfl, rfl, rfl⟩ trivial rfl hl.1 rfl (Nat.le_of_ble_eq_true rfl) dX6_count_78 hP hD hS (fun H locs hP hD hS => ?_)
    have ho := Option.some.inj hsh
    rw [← ho] at hret
    exact hret _ _ _ _ dX6_count_81 hP hD hS
  have hsh := ite_f hsh c_5
  refine lv_tableOut (tgt := 82) hx hb dX6_count_1 (ts_out (n := 5) (by decide) (fun k hk => by rcases (show k = 0 ∨ k = 1 ∨ k = 2 ∨ k = 3 ∨ k = 4 ∨ k = 5 by omega) with rfl | rfl | rfl | rfl | rfl | rfl <;> assumption)) (by decide) ?_
  refine lv_iconst (v := (-1 : Int32)) hx hb dX6_count_82 (by decide) ?_
  have ho := Option.some.inj hsh
  rw [← ho] at hret
  exact hret _ _ _ _ dX6_count_83 hP hD hS
