/-! DryWells$Villages.isAge -/
noncomputable def shX4_isAge (a0 : Int32) : Option (Int32) :=
  (if a0 < (1 : Int32) then some (0 : Int32) else (if (30 : Int32) < a0 then some (0 : Int32) else some (1 : Int32)))
def wdX4_isAge (cI cJ cZ : ClassId)   : va_W := []
abbrev rmX4_isAge : Room := { frames := 0, cells := 0, slots := 0, locals := 0 }
theorem hdX4_isAge : yX4_isAge.cls ≠ "java/lang/invoke/MethodHandle" ∧ yX4_isAge.cls ≠ "java/lang/invoke/VarHandle" ∧ (parseMethodDescriptor yX4_isAge.desc).map (fun d => d.parameters.length) = some 1 := by decide +kernel
set_option maxHeartbeats 4000000 in
set_option maxRecDepth 100000 in
theorem ctX4_isAge (l : Launch) (D : va_G) (cI cJ cZ : ClassId)  (a0 : Int32) (o : Int32) (hsh : shX4_isAge a0 = some o) : CtI l yX4_isAge wsX4_isAge rmX4_isAge D (tys3 cI cJ cZ) noE (wdX4_isAge cI cJ cZ ) [.int a0] o (wdX4_isAge cI cJ cZ ) := by
  refine ctZ plX4 rfl (Nat.le_of_ble_eq_true rfl) ?_
  intro p e s m below meth c A Q S hK hA hE hret H locs hP hD hS ls hl
  replace S : CallFix p m c cX4_isAge 1 s _ wsX4_isAge RX4 := S
  generalize ([.int a0] : List Value).toArray = args at S hret ⊢
  obtain ⟨hx, hb, hml, hown, hts⟩ := id S
  replace hl : lv_has ls 1 [(0, .int a0)] := hl
  unfold shX4_isAge at hsh
  refine lv_iload_n hx hb dX4_isAge_0 rfl (lv_at hl 0 rfl) ?_
  refine lv_iconst (v := (1 : Int32)) hx hb dX4_isAge_1 (by decide) ?_
  refine lv_icmp_lt (tgt := 15) hx hb dX4_isAge_2 (by decide) (fun c1 => ?_) (fun c1 => ?_)
  · skip
    have hsh := ite_t hsh c1
    refine lv_iconst (v := (0 : Int32)) hx hb dX4_isAge_15 (by decide) ?_
    have ho := Option.some.inj hsh
    rw [← ho] at hret
    exact hret _ _ _ _ nar0 dX4_isAge_16 hP hD hS
  · skip
    have hsh := ite_f hsh c1
    refine lv_iload_n hx hb dX4_isAge_5 rfl (lv_at hl 0 rfl) ?_
    refine lv_bipush (v := (30 : Int32)) hx hb dX4_isAge_6 (by decide) ?_
    refine lv_icmp_gt (tgt := 15) hx hb dX4_isAge_8 (by decide) (fun c1 => ?_) (fun c1 => ?_)
    · skip
      have hsh := ite_t hsh c1
      refine lv_iconst (v := (0 : Int32)) hx hb dX4_isAge_15 (by decide) ?_
      have ho := Option.some.inj hsh
      rw [← ho] at hret
      exact hret _ _ _ _ nar0 dX4_isAge_16 hP hD hS
    · skip
      have hsh := ite_f hsh c1
      refine lv_iconst (v := (1 : Int32)) hx hb dX4_isAge_11 (by decide) ?_
      refine lv_goto (tgt := 16) hx hb dX4_isAge_12 (by decide) ?_
      have ho := Option.some.inj hsh
      rw [← ho] at hret
      exact hret _ _ _ _ nar1 dX4_isAge_16 hP hD hS

/-! DryWells$Villages.has -/
noncomputable def shX4_has (a1 : Int32) (v_size : Int32) : Option (Int32) :=
  (if a1 < (1 : Int32) then some (0 : Int32) else (if v_size < a1 then some (0 : Int32) else some (1 : Int32)))
def wdX4_has (cI cJ cZ : ClassId) (q_this q_rocks q_people q_badHoles q_wellPipes q_endAges q_runAges : Nat) (v_size : Int32) : va_W := [(q_this, .inr (4, [.ref q_rocks, .ref q_people, .ref q_badHoles, .ref q_wellPipes, .ref q_endAges, .ref q_runAges, .int v_size]))]
abbrev rmX4_has : Room := { frames := 0, cells := 0, slots := 0, locals := 0 }
theorem inX4_has_X4 : ∀ w ∈ u_ws RX4 TX4 7, w ∈ wsX4_has := fun _ h => List.mem_cons_of_mem _ (List.mem_append_right _ h)
theorem lkX4_has_30 : Cond.fieldLink RX4 30 (TX4 6).1 (TX4 6).2.1 (TX4 6).2.2.1 ∈ wsX4_has := List.mem_of_getElem? (i := 1) rfl
theorem hdX4_has : yX4_has.cls = RX4 ∧ yX4_has.cls ≠ "java/lang/invoke/MethodHandle" ∧ yX4_has.cls ≠ "java/lang/invoke/VarHandle" ∧ (parseMethodDescriptor yX4_has.desc).map (fun d => d.parameters.length) = some 1 := by decide +kernel
set_option maxHeartbeats 4000000 in
set_option maxRecDepth 100000 in
theorem ctX4_has (l : Launch) (D : va_G) (cI cJ cZ : ClassId) (q_this q_rocks q_people q_badHoles q_wellPipes q_endAges q_runAges : Nat) (v_size : Int32) (a1 : Int32) (o : Int32) (hsh : shX4_has a1 v_size = some o) : CtI l yX4_has wsX4_has rmX4_has D (tys3 cI cJ cZ) noE (wdX4_has cI cJ cZ q_this q_rocks q_people q_badHoles q_wellPipes q_endAges q_runAges v_size) [.ref q_this, .int a1] o (wdX4_has cI cJ cZ q_this q_rocks q_people q_badHoles q_wellPipes q_endAges q_runAges v_size) := by
  refine ctZ plX4 rfl (Nat.le_of_ble_eq_true rfl) ?_
  intro p e s m below meth c A Q S hK hA hE hret H locs hP hD hS ls hl
  replace S : CallFix p m c cX4_has 2 s _ wsX4_has RX4 := S
  generalize ([.ref q_this, .int a1] : List Value).toArray = args at S hret ⊢
  obtain ⟨hx, hb, hml, hown, hts⟩ := id S
  replace hl : lv_has ls 2 [(0, .ref q_this), (1, .int a1)] := hl
  unfold shX4_has at hsh
  refine lv_iload_n hx hb dX4_has_0 rfl (lv_at hl 1 rfl) ?_
  refine lv_iconst (v := (1 : Int32)) hx hb dX4_has_1 (by decide) ?_
  refine lv_icmp_lt (tgt := 17) hx hb dX4_has_2 (by decide) (fun c1 => ?_) (fun c1 => ?_)
  · skip
    have hsh := ite_t hsh c1
    refine lv_iconst (v := (0 : Int32)) hx hb dX4_has_17 (by decide) ?_
    have ho := Option.some.inj hsh
    rw [← ho] at hret
    exact hret _ _ _ _ nar0 dX4_has_18 hP hD hS
  · skip
    have hsh := ite_f hsh c1
    refine lv_iload_n hx hb dX4_has_5 rfl (lv_at hl 1 rfl) ?_
    refine lv_aload_n hx hb dX4_has_6 rfl (lv_at hl 0 rfl) ?_
    refine kget (ci := 4) S hK hP rfl inX4_has_X4 0 rfl 6 (by decide) lkX4_has_30 rfl dX4_has_7 ?_
    refine lv_icmp_gt (tgt := 17) hx hb dX4_has_10 (by decide) (fun c1 => ?_) (fun c1 => ?_)
    · skip
      have hsh := ite_t hsh c1
      refine lv_iconst (v := (0 : Int32)) hx hb dX4_has_17 (by decide) ?_
      have ho := Option.some.inj hsh
      rw [← ho] at hret
      exact hret _ _ _ _ nar0 dX4_has_18 hP hD hS
    · skip
      have hsh := ite_f hsh c1
      refine lv_iconst (v := (1 : Int32)) hx hb dX4_has_13 (by decide) ?_
      refine lv_goto (tgt := 18) hx hb dX4_has_14 (by decide) ?_
      have ho := Option.some.inj hsh
      rw [← ho] at hret
      exact hret _ _ _ _ nar1 dX4_has_18 hP hD hS

/-! DryWells$Villages.size -/
noncomputable def shX4_size (v_size : Int32) : Option (Int32) :=
  some v_size
def wdX4_size (cI cJ cZ : ClassId) (q_this q_rocks q_people q_badHoles q_wellPipes q_endAges q_runAges : Nat) (v_size : Int32) : va_W := [(q_this, .inr (4, [.ref q_rocks, .ref q_people, .ref q_badHoles, .ref q_wellPipes, .ref q_endAges, .ref q_runAges, .int v_size]))]
abbrev rmX4_size : Room := { frames := 0, cells := 0, slots := 0, locals := 0 }
theorem inX4_size_X4 : ∀ w ∈ u_ws RX4 TX4 7, w ∈ wsX4_size := fun _ h => List.mem_cons_of_mem _ (List.mem_append_right _ h)
theorem lkX4_size_30 : Cond.fieldLink RX4 30 (TX4 6).1 (TX4 6).2.1 (TX4 6).2.2.1 ∈ wsX4_size := List.mem_of_getElem? (i := 1) rfl
theorem hdX4_size : yX4_size.cls = RX4 ∧ yX4_size.cls ≠ "java/lang/invoke/MethodHandle" ∧ yX4_size.cls ≠ "java/lang/invoke/VarHandle" ∧ (parseMethodDescriptor yX4_size.desc).map (fun d => d.parameters.length) = some 0 := by decide +kernel
set_option maxHeartbeats 4000000 in
set_option maxRecDepth 100000 in
theorem ctX4_size (l : Launch) (D : va_G) (cI cJ cZ : ClassId) (q_this q_rocks q_people q_badHoles q_wellPipes q_endAges q_runAges : Nat) (v_size : Int32)  (o : Int32) (hsh : shX4_size v_size = some o) : CtI l yX4_size wsX4_size rmX4_size D (tys3 cI cJ cZ) noE (wdX4_size cI cJ cZ q_this q_rocks q_people q_badHoles q_wellPipes q_endAges q_runAges v_size) [.ref q_this] o (wdX4_size cI cJ cZ q_this q_rocks q_people q_badHoles q_wellPipes q_endAges q_runAges v_size) := by
  refine ctI plX4 rfl (Nat.le_of_ble_eq_true rfl) ?_
  intro p e s m below meth c A Q S hK hA hE hret H locs hP hD hS ls hl
  replace S : CallFix p m c cX4_size 1 s _ wsX4_size RX4 := S
  generalize ([.ref q_this] : List Value).toArray = args at S hret ⊢
  obtain ⟨hx, hb, hml, hown, hts⟩ := id S
  replace hl : lv_has ls 1 [(0, .ref q_this)] := hl
  unfold shX4_size at hsh
  refine lv_aload_n hx hb dX4_size_0 rfl (lv_at hl 0 rfl) ?_
  refine kget (ci := 4) S hK hP rfl inX4_size_X4 0 rfl 6 (by decide) lkX4_size_30 rfl dX4_size_1 ?_
  have ho := Option.some.inj hsh
  rw [← ho] at hret
  exact hret _ _ _ _ dX4_size_4 hP hD hS

/-! DryWells$Villages.append -/
noncomputable def shX4_append (a1 : Int32) (a2 : Int32) (v_size : Int32) (w_rocks : Nat → Int32) (w_people : Nat → Int32) (w_badHoles : Nat → Int32) (w_wellPipes : Nat → Int32) (w_endAges : Nat → Int32) (w_runAges : Nat → Int32) : Option (Int32 × Int32 × (Nat → Int32) × (Nat → Int32) × (Nat → Int32) × (Nat → Int32) × (Nat → Int32) × (Nat → Int32)) :=
  (if v_size < (7 : Int32) then ((gd (v_size + (1 : Int32)) 8).bind fun _ => ((gd (v_size + (1 : Int32)) 8).bind fun _ => ((gd (v_size + (1 : Int32)) 8).bind fun _ => ((gd (v_size + (1 : Int32)) 8).bind fun _ => ((gd (v_size + (1 : Int32)) 8).bind fun _ => ((gd (v_size + (1 : Int32)) 8).bind fun _ => some ((v_size + (1 : Int32)), (v_size + (1 : Int32)), (upd w_rocks ((v_size + (1 : Int32))).toNatClampNeg a1), (upd w_people ((v_size + (1 : Int32))).toNatClampNeg a2), (upd w_badHoles ((v_size + (1 : Int32))).toNatClampNeg (0 : Int32)), (upd w_wellPipes ((v_size + (1 : Int32))).toNatClampNeg (-1 : Int32)), (upd w_endAges ((v_size + (1 : Int32))).toNatClampNeg (-1 : Int32)), (upd w_runAges ((v_size + (1 : Int32))).toNatClampNeg (0 : Int32))))))))) else some ((-1 : Int32), v_size, w_rocks, w_people, w_badHoles, w_wellPipes, w_endAges, w_runAges))
def wdX4_append (cI cJ cZ : ClassId) (q_this q_rocks q_people q_badHoles q_wellPipes q_endAges q_runAges : Nat) (v_size : Int32) (w_rocks : Nat → Int32) (w_people : Nat → Int32) (w_badHoles : Nat → Int32) (w_wellPipes : Nat → Int32) (w_endAges : Nat → Int32) (w_runAges : Nat → Int32) : va_W := [(q_this, .inr (4, [.ref q_rocks, .ref q_people, .ref q_badHoles, .ref q_wellPipes, .ref q_endAges, .ref q_runAges, .int v_size])), (q_rocks, .inl (cI, 8, .inl w_rocks)), (q_people, .inl (cI, 8, .inl w_people)), (q_badHoles, .inl (cI, 8, .inl w_badHoles)), (q_wellPipes, .inl (cI, 8, .inl w_wellPipes)), (q_endAges, .inl (cI, 8, .inl w_endAges)), (q_runAges, .inl (cI, 8, .inl w_runAges))]
abbrev rmX4_append : Room := { frames := 0, cells := 0, slots := 0, locals := 0 }
theorem inX4_append_X4 : ∀ w ∈ u_ws RX4 TX4 7, w ∈ wsX4_append := fun _ h => List.mem_cons_of_mem _ (List.mem_append_right _ h)
theorem lkX4_append_30 : Cond.fieldLink RX4 30 (TX4 6).1 (TX4 6).2.1 (TX4 6).2.2.1 ∈ wsX4_append := List.mem_of_getElem? (i := 1) rfl
theorem lkX4_append_11 : Cond.fieldLink RX4 11 (TX4 0).1 (TX4 0).2.1 (TX4 0).2.2.1 ∈ wsX4_append := List.mem_of_getElem? (i := 2) rfl
theorem lkX4_append_15 : Cond.fieldLink RX4 15 (TX4 1).1 (TX4 1).2.1 (TX4 1).2.2.1 ∈ wsX4_append := List.mem_of_getElem? (i := 3) rfl
theorem lkX4_append_18 : Cond.fieldLink RX4 18 (TX4 2).1 (TX4 2).2.1 (TX4 2).2.2.1 ∈ wsX4_append := List.mem_of_getElem? (i := 4) rfl
theorem lkX4_append_21 : Cond.fieldLink RX4 21 (TX4 3).1 (TX4 3).2.1 (TX4 3).2.2.1 ∈ wsX4_append := List.mem_of_getElem? (i := 5) rfl
theorem lkX4_append_24 : Cond.fieldLink RX4 24 (TX4 4).1 (TX4 4).2.1 (TX4 4).2.2.1 ∈ wsX4_append := List.mem_of_getElem? (i := 6) rfl
theorem lkX4_append_27 : Cond.fieldLink RX4 27 (TX4 5).1 (TX4 5).2.1 (TX4 5).2.2.1 ∈ wsX4_append := List.mem_of_getElem? (i := 7) rfl
theorem hdX4_append : yX4_append.cls = RX4 ∧ yX4_append.cls ≠ "java/lang/invoke/MethodHandle" ∧ yX4_append.cls ≠ "java/lang/invoke/VarHandle" ∧ (parseMethodDescriptor yX4_append.desc).map (fun d => d.parameters.length) = some 2 := by decide +kernel
set_option maxHeartbeats 4000000 in
set_option maxRecDepth 100000 in
theorem ctX4_append (l : Launch) (D : va_G) (cI cJ cZ : ClassId) (q_this q_rocks q_people q_badHoles q_wellPipes q_endAges q_runAges : Nat) (v_size : Int32) (w_rocks : Nat → Int32) (w_people : Nat → Int32) (w_badHoles : Nat → Int32) (w_wellPipes : Nat → Int32) (w_endAges : Nat → Int32) (w_runAges : Nat → Int32) (a1 : Int32) (a2 : Int32) (o : Int32 × Int32 × (Nat → Int32) × (Nat → Int32) × (Nat → Int32) × (Nat → Int32) × (Nat → Int32) × (Nat → Int32)) (hsh : shX4_append a1 a2 v_size w_rocks w_people w_badHoles w_wellPipes w_endAges w_runAges = some o) : CtI l yX4_append wsX4_append rmX4_append D (tys3 cI cJ cZ) noE (wdX4_append cI cJ cZ q_this q_rocks q_people q_badHoles q_wellPipes q_endAges q_runAges v_size w_rocks w_people w_badHoles w_wellPipes w_endAges w_runAges) [.ref q_this, .int a1, .int a2] o.1 (wdX4_append cI cJ cZ q_this q_rocks q_people q_badHoles q_wellPipes q_endAges q_runAges o.2.1 o.2.2.1 o.2.2.2.1 o.2.2.2.2.1 o.2.2.2.2.2.1 o.2.2.2.2.2.2.1 o.2.2.2.2.2.2.2) := by
  refine ctI plX4 rfl (Nat.le_of_ble_eq_true rfl) ?_
  intro p e s m below meth c A Q S hK hA hE hret H locs hP hD hS ls hl
  replace S : CallFix p m c cX4_append 3 s _ wsX4_append RX4 := S
  generalize ([.ref q_this, .int a1, .int a2] : List Value).toArray = args at S hret ⊢
  obtain ⟨hx, hb, hml, hown, hts⟩ := id S
  replace hl : lv_has ls 3 [(0, .ref q_this), (1, .int a1), (2, .int a2)] := hl
  unfold shX4_append at hsh
  refine lv_aload_n hx hb dX4_append_0 rfl (lv_at hl 0 rfl) ?_
  refine kget (ci := 4) S hK hP rfl inX4_append_X4 0 rfl 6 (by decide) lkX4_append_30 rfl dX4_append_1 ?_
  refine lv_bipush (v := (7 : Int32)) hx hb dX4_append_4 (by decide) ?_
  refine lv_icmp_lt (tgt := 11) hx hb dX4_append_6 (by decide) (fun c1 => ?_) (fun c1 => ?_)
  · skip
    have hsh := ite_t hsh c1
    refine lv_aload_n hx hb dX4_append_11 rfl (lv_at hl 0 rfl) ?_
    refine lv_dup hx hb dX4_append_12 rfl ?_
    refine kget (ci := 4) S hK hP rfl inX4_append_X4 0 rfl 6 (by decide) lkX4_append_30 rfl dX4_append_13 ?_
    refine lv_iconst (v := (1 : Int32)) hx hb dX4_append_16 (by decide) ?_
    refine lv_iadd hx hb dX4_append_17 ?_
    refine kput (ci := 4) S hK hP hD hS rfl inX4_append_X4 tyX4_ok nmX4 0 rfl 6 (by decide) lkX4_append_30 rfl rfl rfl (Nat.le_of_ble_eq_true rfl) (ws' := (wdX4_append cI cJ cZ q_this q_rocks q_people q_badHoles q_wellPipes q_endAges q_runAges (v_size + (1 : Int32)) w_rocks w_people w_badHoles w_wellPipes w_endAges w_runAges)) rfl dX4_append_18 (fun H locs hP hD hS => ?_)
    refine lv_aload_n hx hb dX4_append_21 rfl (lv_at hl 0 rfl) ?_
    refine kget (ci := 4) S hK hP rfl inX4_append_X4 0 rfl 0 (by decide) lkX4_append_11 rfl dX4_append_22 ?_
    refine lv_aload_n hx hb dX4_append_25 rfl (lv_at hl 0 rfl) ?_
    refine kget (ci := 4) S hK hP rfl inX4_append_X4 0 rfl 6 (by decide) lkX4_append_30 rfl dX4_append_26 ?_
    refine lv_iload_n hx hb dX4_append_29 rfl (lv_at hl 1 rfl) ?_
    obtain ⟨_, hg, hsh⟩ := bd hsh
    refine kias S hK hP hD hS 1 0 rfl rfl (gd_in hg) (ws' := (wdX4_append cI cJ cZ q_this q_rocks q_people q_badHoles q_wellPipes q_endAges q_runAges (v_size + (1 : Int32)) (upd w_rocks ((v_size + (1 : Int32))).toNatClampNeg a1) w_people w_badHoles w_wellPipes w_endAges w_runAges)) rfl dX4_append_30 (fun H locs hP hD hS => ?_)
    refine lv_aload_n hx hb dX4_append_31 rfl (lv_at hl 0 rfl) ?_
    refine kget (ci := 4) S hK hP rfl inX4_append_X4 0 rfl 1 (by decide) lkX4_append_15 rfl dX4_append_32 ?_
    refine lv_aload_n hx hb dX4_append_35 rfl (lv_at hl 0 rfl) ?_
    refine kget (ci := 4) S hK hP rfl inX4_append_X4 0 rfl 6 (by decide) lkX4_append_30 rfl dX4_append_36 ?_
    refine lv_iload_n hx hb dX4_append_39 rfl (lv_at hl 2 rfl) ?_
    obtain ⟨_, hg, hsh⟩ := bd hsh
    refine kias S hK hP hD hS 2 0 rfl rfl (gd_in hg) (ws' := (wdX4_append cI cJ cZ q_this q_rocks q_people q_badHoles q_wellPipes q_endAges q_runAges (v_size + (1 : Int32)) (upd w_rocks ((v_size + (1 : Int32))).toNatClampNeg a1) (upd w_people ((v_size + (1 : Int32))).toNatClampNeg a2) w_badHoles w_wellPipes w_endAges w_runAges)) rfl dX4_append_40 (fun H locs hP hD hS => ?_)
    refine lv_aload_n hx hb dX4_append_41 rfl (lv_at hl 0 rfl) ?_
    refine kget (ci := 4) S hK hP rfl inX4_append_X4 0 rfl 2 (by decide) lkX4_append_18 rfl dX4_append_42 ?_
    refine lv_aload_n hx hb dX4_append_45 rfl (lv_at hl 0 rfl) ?_
    refine kget (ci := 4) S hK hP rfl inX4_append_X4 0 rfl 6 (by decide) lkX4_append_30 rfl dX4_append_46 ?_
    refine lv_iconst (v := (0 : Int32)) hx hb dX4_append_49 (by decide) ?_
    obtain ⟨_, hg, hsh⟩ := bd hsh
    refine kias S hK hP hD hS 3 0 rfl rfl (gd_in hg) (ws' := (wdX4_append cI cJ cZ q_this q_rocks q_people q_badHoles q_wellPipes q_endAges q_runAges (v_size + (1 : Int32)) (upd w_rocks ((v_size + (1 : Int32))).toNatClampNeg a1) (upd w_people ((v_size + (1 : Int32))).toNatClampNeg a2) (upd w_badHoles ((v_size + (1 : Int32))).toNatClampNeg (0 : Int32)) w_wellPipes w_endAges w_runAges)) rfl dX4_append_50 (fun H locs hP hD hS => ?_)
    refine lv_aload_n hx hb dX4_append_51 rfl (lv_at hl 0 rfl) ?_
    refine kget (ci := 4) S hK hP rfl inX4_append_X4 0 rfl 3 (by decide) lkX4_append_21 rfl dX4_append_52 ?_
    refine lv_aload_n hx hb dX4_append_55 rfl (lv_at hl 0 rfl) ?_
    refine kget (ci := 4) S hK hP rfl inX4_append_X4 0 rfl 6 (by decide) lkX4_append_30 rfl dX4_append_56 ?_
    refine lv_iconst (v := (-1 : Int32)) hx hb dX4_append_59 (by decide) ?_
    obtain ⟨_, hg, hsh⟩ := bd hsh
    refine kias S hK hP hD hS 4 0 rfl rfl (gd_in hg) (ws' := (wdX4_append cI cJ cZ q_this q_rocks q_people q_badHoles q_wellPipes q_endAges q_runAges (v_size + (1 : Int32)) (upd w_rocks ((v_size + (1 : Int32))).toNatClampNeg a1) (upd w_people ((v_size + (1 : Int32))).toNatClampNeg a2) (upd w_badHoles ((v_size + (1 : Int32))).toNatClampNeg (0 : Int32)) (upd w_wellPipes ((v_size + (1 : Int32))).toNatClampNeg (-1 : Int32)) w_endAges w_runAges)) rfl dX4_append_60 (fun H locs hP hD hS => ?_)
    refine lv_aload_n hx hb dX4_append_61 rfl (lv_at hl 0 rfl) ?_
    refine kget (ci := 4) S hK hP rfl inX4_append_X4 0 rfl 4 (by decide) lkX4_append_24 rfl dX4_append_62 ?_
    refine lv_aload_n hx hb dX4_append_65 rfl (lv_at hl 0 rfl) ?_
    refine kget (ci := 4) S hK hP rfl inX4_append_X4 0 rfl 6 (by decide) lkX4_append_30 rfl dX4_append_66 ?_
    refine lv_iconst (v := (-1 : Int32)) hx hb dX4_append_69 (by decide) ?_
    obtain ⟨_, hg, hsh⟩ := bd hsh
    refine kias S hK hP hD hS 5 0 rfl rfl (gd_in hg) (ws' := (wdX4_append cI cJ cZ q_this q_rocks q_people q_badHoles q_wellPipes q_endAges q_runAges (v_size + (1 : Int32)) (upd w_rocks ((v_size + (1 : Int32))).toNatClampNeg a1) (upd w_people ((v_size + (1 : Int32))).toNatClampNeg a2) (upd w_badHoles ((v_size + (1 : Int32))).toNatClampNeg (0 : Int32)) (upd w_wellPipes ((v_size + (1 : Int32))).toNatClampNeg (-1 : Int32)) (upd w_endAges ((v_size + (1 : Int32))).toNatClampNeg (-1 : Int32)) w_runAges)) rfl dX4_append_70 (fun H locs hP hD hS => ?_)
    refine lv_aload_n hx hb dX4_append_71 rfl (lv_at hl 0 rfl) ?_
    refine kget (ci := 4) S hK hP rfl inX4_append_X4 0 rfl 5 (by decide) lkX4_append_27 rfl dX4_append_72 ?_
    refine lv_aload_n hx hb dX4_append_75 rfl (lv_at hl 0 rfl) ?_
    refine kget (ci := 4) S hK hP rfl inX4_append_X4 0 rfl 6 (by decide) lkX4_append_30 rfl dX4_append_76 ?_
    refine lv_iconst (v := (0 : Int32)) hx hb dX4_append_79 (by decide) ?_
    obtain ⟨_, hg, hsh⟩ := bd hsh
    refine kias S hK hP hD hS 6 0 rfl rfl (gd_in hg) (ws' := (wdX4_append cI cJ cZ q_this q_rocks q_people q_badHoles q_wellPipes q_endAges q_runAges (v_size + (1 : Int32)) (upd w_rocks ((v_size + (1 : Int32))).toNatClampNeg a1) (upd w_people ((v_size + (1 : Int32))).toNatClampNeg a2) (upd w_badHoles ((v_size + (1 : Int32))).toNatClampNeg (0 : Int32)) (upd w_wellPipes ((v_size + (1 : Int32))).toNatClampNeg (-1 : Int32)) (upd w_endAges ((v_size + (1 : Int32))).toNatClampNeg (-1 : Int32)) (upd w_runAges ((v_size + (1 : Int32))).toNatClampNeg (0 : Int32)))) rfl dX4_append_80 (fun H locs hP hD hS => ?_)
    refine lv_aload_n hx hb dX4_append_81 rfl (lv_at hl 0 rfl) ?_
    refine kget (ci := 4) S hK hP rfl inX4_append_X4 0 rfl 6 (by decide) lkX4_append_30 rfl dX4_append_82 ?_
    have ho := Option.some.inj hsh
    rw [← ho] at hret
    exact hret _ _ _ _ dX4_append_85 hP hD hS
  · skip
    have hsh := ite_f hsh c1
    refine lv_iconst (v := (-1 : Int32)) hx hb dX4_append_9 (by decide) ?_
    have ho := Option.some.inj hsh
    rw [← ho] at hret
    exact hret _ _ _ _ dX4_append_10 hP hD hS

/-! DryWells$Villages.rockOf -/
noncomputable def shX4_rockOf (a1 : Int32) (w_rocks : Nat → Int32) : Option (Int32) :=
  ((gd a1 8).bind fun _ => some (w_rocks (a1).toNatClampNeg))
def wdX4_rockOf (cI cJ cZ : ClassId) (q_this q_rocks q_people q_badHoles q_wellPipes q_endAges q_runAges : Nat) (v_size : Int32) (w_rocks : Nat → Int32) : va_W := [(q_this, .inr (4, [.ref q_rocks, .ref q_people, .ref q_badHoles, .ref q_wellPipes, .ref q_endAges, .ref q_runAges, .int v_size])), (q_rocks, .inl (cI, 8, .inl w_rocks))]
abbrev rmX4_rockOf : Room := { frames := 0, cells := 0, slots := 0, locals := 0 }
theorem inX4_rockOf_X4 : ∀ w ∈ u_ws RX4 TX4 7, w ∈ wsX4_rockOf := fun _ h => List.mem_cons_of_mem _ (List.mem_append_right _ h)
theorem lkX4_rockOf_11 : Cond.fieldLink RX4 11 (TX4 0).1 (TX4 0).2.1 (TX4 0).2.2.1 ∈ wsX4_rockOf := List.mem_of_getElem? (i := 1) rfl
theorem hdX4_rockOf : yX4_rockOf.cls = RX4 ∧ yX4_rockOf.cls ≠ "java/lang/invoke/MethodHandle" ∧ yX4_rockOf.cls ≠ "java/lang/invoke/VarHandle" ∧ (parseMethodDescriptor yX4_rockOf.desc).map (fun d => d.parameters.length) = some 1 := by decide +kernel
set_option maxHeartbeats 4000000 in
set_option maxRecDepth 100000 in
theorem ctX4_rockOf (l : Launch) (D : va_G) (cI cJ cZ : ClassId) (q_this q_rocks q_people q_badHoles q_wellPipes q_endAges q_runAges : Nat) (v_size : Int32) (w_rocks : Nat → Int32) (a1 : Int32) (o : Int32) (hsh : shX4_rockOf a1 w_rocks = some o) : CtI l yX4_rockOf wsX4_rockOf rmX4_rockOf D (tys3 cI cJ cZ) noE (wdX4_rockOf cI cJ cZ q_this q_rocks q_people q_badHoles q_wellPipes q_endAges q_runAges v_size w_rocks) [.ref q_this, .int a1] o (wdX4_rockOf cI cJ cZ q_this q_rocks q_people q_badHoles q_wellPipes q_endAges q_runAges v_size w_rocks) := by
  refine ctI plX4 rfl (Nat.le_of_ble_eq_true rfl) ?_
  intro p e s m below meth c A Q S hK hA hE hret H locs hP hD hS ls hl
  replace S : CallFix p m c cX4_rockOf 2 s _ wsX4_rockOf RX4 := S
  generalize ([.ref q_this, .int a1] : List Value).toArray = args at S hret ⊢
  obtain ⟨hx, hb, hml, hown, hts⟩ := id S
  replace hl : lv_has ls 2 [(0, .ref q_this), (1, .int a1)] := hl
  unfold shX4_rockOf at hsh
  refine lv_aload_n hx hb dX4_rockOf_0 rfl (lv_at hl 0 rfl) ?_
  refine kget (ci := 4) S hK hP rfl inX4_rockOf_X4 0 rfl 0 (by decide) lkX4_rockOf_11 rfl dX4_rockOf_1 ?_
  refine lv_iload_n hx hb dX4_rockOf_4 rfl (lv_at hl 1 rfl) ?_
  obtain ⟨_, hg, hsh⟩ := bd hsh
  refine kial S hK hP 1 0 rfl rfl (gd_in hg) dX4_rockOf_5 ?_
  have ho := Option.some.inj hsh
  rw [← ho] at hret
  exact hret _ _ _ _ dX4_rockOf_6 hP hD hS

/-! DryWells$Villages.peopleOf -/
noncomputable def shX4_peopleOf (a1 : Int32) (w_people : Nat → Int32) : Option (Int32) :=
  ((gd a1 8).bind fun _ => some (w_people (a1).toNatClampNeg))
def wdX4_peopleOf (cI cJ cZ : ClassId) (q_this q_rocks q_people q_badHoles q_wellPipes q_endAges q_runAges : Nat) (v_size : Int32) (w_people : Nat → Int32) : va_W := [(q_this, .inr (4, [.ref q_rocks, .ref q_people, .ref q_badHoles, .ref q_wellPipes, .ref q_endAges, .ref q_runAges, .int v_size])), (q_people, .inl (cI, 8, .inl w_people))]
abbrev rmX4_peopleOf : Room := { frames := 0, cells := 0, slots := 0, locals := 0 }
theorem inX4_peopleOf_X4 : ∀ w ∈ u_ws RX4 TX4 7, w ∈ wsX4_peopleOf := fun _ h => List.mem_cons_of_mem _ (List.mem_append_right _ h)
theorem lkX4_peopleOf_15 : Cond.fieldLink RX4 15 (TX4 1).1 (TX4 1).2.1 (TX4 1).2.2.1 ∈ wsX4_peopleOf := List.mem_of_getElem? (i := 1) rfl
theorem hdX4_peopleOf : yX4_peopleOf.cls = RX4 ∧ yX4_peopleOf.cls ≠ "java/lang/invoke/MethodHandle" ∧ yX4_peopleOf.cls ≠ "java/lang/invoke/VarHandle" ∧ (parseMethodDescriptor yX4_peopleOf.desc).map (fun d => d.parameters.length) = some 1 := by decide +kernel
set_option maxHeartbeats 4000000 in
set_option maxRecDepth 100000 in
theorem ctX4_peopleOf (l : Launch) (D : va_G) (cI cJ cZ : ClassId) (q_this q_rocks q_people q_badHoles q_wellPipes q_endAges q_runAges : Nat) (v_size : Int32) (w_people : Nat → Int32) (a1 : Int32) (o : Int32) (hsh : shX4_peopleOf a1 w_people = some o) : CtI l yX4_peopleOf wsX4_peopleOf rmX4_peopleOf D (tys3 cI cJ cZ) noE (wdX4_peopleOf cI cJ cZ q_this q_rocks q_people q_badHoles q_wellPipes q_endAges q_runAges v_size w_people) [.ref q_this, .int a1] o (wdX4_peopleOf cI cJ cZ q_this q_rocks q_people q_badHoles q_wellPipes q_endAges q_runAges v_size w_people) := by
  refine ctI plX4 rfl (Nat.le_of_ble_eq_true rfl) ?_
  intro p e s m below meth c A Q S hK hA hE hret H locs hP hD hS ls hl
  replace S : CallFix p m c cX4_peopleOf 2 s _ wsX4_peopleOf RX4 := S
  generalize ([.ref q_this, .int a1] : List Value).toArray = args at S hret ⊢
  obtain ⟨hx, hb, hml, hown, hts⟩ := id S
  replace hl : lv_has ls 2 [(0, .ref q_this), (1, .int a1)] := hl
  unfold shX4_peopleOf at hsh
  refine lv_aload_n hx hb dX4_peopleOf_0 rfl (lv_at hl 0 rfl) ?_
  refine kget (ci := 4) S hK hP rfl inX4_peopleOf_X4 0 rfl 1 (by decide) lkX4_peopleOf_15 rfl dX4_peopleOf_1 ?_
  refine lv_iload_n hx hb dX4_peopleOf_4 rfl (lv_at hl 1 rfl) ?_
  obtain ⟨_, hg, hsh⟩ := bd hsh
  refine kial S hK hP 1 0 rfl rfl (gd_in hg) dX4_peopleOf_5 ?_
  have ho := Option.some.inj hsh
  rw [← ho] at hret
  exact hret _ _ _ _ dX4_peopleOf_6 hP hD hS

/-! DryWells$Villages.badHoles -/
noncomputable def shX4_badHoles (a1 : Int32) (w_badHoles : Nat → Int32) : Option (Int32) :=
  ((gd a1 8).bind fun _ => some (w_badHoles (a1).toNatClampNeg))
def wdX4_badHoles (cI cJ cZ : ClassId) (q_this q_rocks q_people q_badHoles q_wellPipes q_endAges q_runAges : Nat) (v_size : Int32) (w_badHoles : Nat → Int32) : va_W := [(q_this, .inr (4, [.ref q_rocks, .ref q_people, .ref q_badHoles, .ref q_wellPipes, .ref q_endAges, .ref q_runAges, .int v_size])), (q_badHoles, .inl (cI, 8, .inl w_badHoles))]
abbrev rmX4_badHoles : Room := { frames := 0, cells := 0, slots := 0, locals := 0 }
theorem inX4_badHoles_X4 : ∀ w ∈ u_ws RX4 TX4 7, w ∈ wsX4_badHoles := fun _ h => List.mem_cons_of_mem _ (List.mem_append_right _ h)
theorem lkX4_badHoles_18 : Cond.fieldLink RX4 18 (TX4 2).1 (TX4 2).2.1 (TX4 2).2.2.1 ∈ wsX4_badHoles := List.mem_of_getElem? (i := 1) rfl
theorem hdX4_badHoles : yX4_badHoles.cls = RX4 ∧ yX4_badHoles.cls ≠ "java/lang/invoke/MethodHandle" ∧ yX4_badHoles.cls ≠ "java/lang/invoke/VarHandle" ∧ (parseMethodDescriptor yX4_badHoles.desc).map (fun d => d.parameters.length) = some 1 := by decide +kernel
set_option maxHeartbeats 4000000 in
set_option maxRecDepth 100000 in
theorem ctX4_badHoles (l : Launch) (D : va_G) (cI cJ cZ : ClassId) (q_this q_rocks q_people q_badHoles q_wellPipes q_endAges q_runAges : Nat) (v_size : Int32) (w_badHoles : Nat → Int32) (a1 : Int32) (o : Int32) (hsh : shX4_badHoles a1 w_badHoles = some o) : CtI l yX4_badHoles wsX4_badHoles rmX4_badHoles D (tys3 cI cJ cZ) noE (wdX4_badHoles cI cJ cZ q_this q_rocks q_people q_badHoles q_wellPipes q_endAges q_runAges v_size w_badHoles) [.ref q_this, .int a1] o (wdX4_badHoles cI cJ cZ q_this q_rocks q_people q_badHoles q_wellPipes q_endAges q_runAges v_size w_badHoles) := by
  refine ctI plX4 rfl (Nat.le_of_ble_eq_true rfl) ?_
  intro p e s m below meth c A Q S hK hA hE hret H locs hP hD hS ls hl
  replace S : CallFix p m c cX4_badHoles 2 s _ wsX4_badHoles RX4 := S
  generalize ([.ref q_this, .int a1] : List Value).toArray = args at S hret ⊢
  obtain ⟨hx, hb, hml, hown, hts⟩ := id S
  replace hl : lv_has ls 2 [(0, .ref q_this), (1, .int a1)] := hl
  unfold shX4_badHoles at hsh
  refine lv_aload_n hx hb dX4_badHoles_0 rfl (lv_at hl 0 rfl) ?_
  refine kget (ci := 4) S hK hP rfl inX4_badHoles_X4 0 rfl 2 (by decide) lkX4_badHoles_18 rfl dX4_badHoles_1 ?_
  refine lv_iload_n hx hb dX4_badHoles_4 rfl (lv_at hl 1 rfl) ?_
  obtain ⟨_, hg, hsh⟩ := bd hsh
  refine kial S hK hP 1 0 rfl rfl (gd_in hg) dX4_badHoles_5 ?_
  have ho := Option.some.inj hsh
  rw [← ho] at hret
  exact hret _ _ _ _ dX4_badHoles_6 hP hD hS

/-! DryWells$Villages.wellPipes -/
noncomputable def shX4_wellPipes (a1 : Int32) (w_wellPipes : Nat → Int32) : Option (Int32) :=
  ((gd a1 8).bind fun _ => some (w_wellPipes (a1).toNatClampNeg))
def wdX4_wellPipes (cI cJ cZ : ClassId) (q_this q_rocks q_people q_badHoles q_wellPipes q_endAges q_runAges : Nat) (v_size : Int32) (w_wellPipes : Nat → Int32) : va_W := [(q_this, .inr (4, [.ref q_rocks, .ref q_people, .ref q_badHoles, .ref q_wellPipes, .ref q_endAges, .ref q_runAges, .int v_size])), (q_wellPipes, .inl (cI, 8, .inl w_wellPipes))]
abbrev rmX4_wellPipes : Room := { frames := 0, cells := 0, slots := 0, locals := 0 }
theorem inX4_wellPipes_X4 : ∀ w ∈ u_ws RX4 TX4 7, w ∈ wsX4_wellPipes := fun _ h => List.mem_cons_of_mem _ (List.mem_append_right _ h)
theorem lkX4_wellPipes_21 : Cond.fieldLink RX4 21 (TX4 3).1 (TX4 3).2.1 (TX4 3).2.2.1 ∈ wsX4_wellPipes := List.mem_of_getElem? (i := 1) rfl
theorem hdX4_wellPipes : yX4_wellPipes.cls = RX4 ∧ yX4_wellPipes.cls ≠ "java/lang/invoke/MethodHandle" ∧ yX4_wellPipes.cls ≠ "java/lang/invoke/VarHandle" ∧ (parseMethodDescriptor yX4_wellPipes.desc).map (fun d => d.parameters.length) = some 1 := by decide +kernel
set_option maxHeartbeats 4000000 in
set_option maxRecDepth 100000 in
theorem ctX4_wellPipes (l : Launch) (D : va_G) (cI cJ cZ : ClassId) (q_this q_rocks q_people q_badHoles q_wellPipes q_endAges q_runAges : Nat) (v_size : Int32) (w_wellPipes : Nat → Int32) (a1 : Int32) (o : Int32) (hsh : shX4_wellPipes a1 w_wellPipes = some o) : CtI l yX4_wellPipes wsX4_wellPipes rmX4_wellPipes D (tys3 cI cJ cZ) noE (wdX4_wellPipes cI cJ cZ q_this q_rocks q_people q_badHoles q_wellPipes q_endAges q_runAges v_size w_wellPipes) [.ref q_this, .int a1] o (wdX4_wellPipes cI cJ cZ q_this q_rocks q_people q_badHoles q_wellPipes q_endAges q_runAges v_size w_wellPipes) := by
  refine ctI plX4 rfl (Nat.le_of_ble_eq_true rfl) ?_
  intro p e s m below meth c A Q S hK hA hE hret H locs hP hD hS ls hl
  replace S : CallFix p m c cX4_wellPipes 2 s _ wsX4_wellPipes RX4 := S
  generalize ([.ref q_this, .int a1] : List Value).toArray = args at S hret ⊢
  obtain ⟨hx, hb, hml, hown, hts⟩ := id S
  replace hl : lv_has ls 2 [(0, .ref q_this), (1, .int a1)] := hl
  unfold shX4_wellPipes at hsh
  refine lv_aload_n hx hb dX4_wellPipes_0 rfl (lv_at hl 0 rfl) ?_
  refine kget (ci := 4) S hK hP rfl inX4_wellPipes_X4 0 rfl 3 (by decide) lkX4_wellPipes_21 rfl dX4_wellPipes_1 ?_
  refine lv_iload_n hx hb dX4_wellPipes_4 rfl (lv_at hl 1 rfl) ?_
  obtain ⟨_, hg, hsh⟩ := bd hsh
  refine kial S hK hP 1 0 rfl rfl (gd_in hg) dX4_wellPipes_5 ?_
  have ho := Option.some.inj hsh
  rw [← ho] at hret
  exact hret _ _ _ _ dX4_wellPipes_6 hP hD hS

/-! DryWells$Villages.endAge -/
noncomputable def shX4_endAge (a1 : Int32) (w_endAges : Nat → Int32) : Option (Int32) :=
  ((gd a1 8).bind fun _ => some (w_endAges (a1).toNatClampNeg))
def wdX4_endAge (cI cJ cZ : ClassId) (q_this q_rocks q_people q_badHoles q_wellPipes q_endAges q_runAges : Nat) (v_size : Int32) (w_endAges : Nat → Int32) : va_W := [(q_this, .inr (4, [.ref q_rocks, .ref q_people, .ref q_badHoles, .ref q_wellPipes, .ref q_endAges, .ref q_runAges, .int v_size])), (q_endAges, .inl (cI, 8, .inl w_endAges))]
abbrev rmX4_endAge : Room := { frames := 0, cells := 0, slots := 0, locals := 0 }
theorem inX4_endAge_X4 : ∀ w ∈ u_ws RX4 TX4 7, w ∈ wsX4_endAge := fun _ h => List.mem_cons_of_mem _ (List.mem_append_right _ h)
theorem lkX4_endAge_24 : Cond.fieldLink RX4 24 (TX4 4).1 (TX4 4).2.1 (TX4 4).2.2.1 ∈ wsX4_endAge := List.mem_of_getElem? (i := 1) rfl
theorem hdX4_endAge : yX4_endAge.cls = RX4 ∧ yX4_endAge.cls ≠ "java/lang/invoke/MethodHandle" ∧ yX4_endAge.cls ≠ "java/lang/invoke/VarHandle" ∧ (parseMethodDescriptor yX4_endAge.desc).map (fun d => d.parameters.length) = some 1 := by decide +kernel
set_option maxHeartbeats 4000000 in
set_option maxRecDepth 100000 in
theorem ctX4_endAge (l : Launch) (D : va_G) (cI cJ cZ : ClassId) (q_this q_rocks q_people q_badHoles q_wellPipes q_endAges q_runAges : Nat) (v_size : Int32) (w_endAges : Nat → Int32) (a1 : Int32) (o : Int32) (hsh : shX4_endAge a1 w_endAges = some o) : CtI l yX4_endAge wsX4_endAge rmX4_endAge D (tys3 cI cJ cZ) noE (wdX4_endAge cI cJ cZ q_this q_rocks q_people q_badHoles q_wellPipes q_endAges q_runAges v_size w_endAges) [.ref q_this, .int a1] o (wdX4_endAge cI cJ cZ q_this q_rocks q_people q_badHoles q_wellPipes q_endAges q_runAges v_size w_endAges) := by
  refine ctI plX4 rfl (Nat.le_of_ble_eq_true rfl) ?_
  intro p e s m below meth c A Q S hK hA hE hret H locs hP hD hS ls hl
  replace S : CallFix p m c cX4_endAge 2 s _ wsX4_endAge RX4 := S
  generalize ([.ref q_this, .int a1] : List Value).toArray = args at S hret ⊢
  obtain ⟨hx, hb, hml, hown, hts⟩ := id S
  replace hl : lv_has ls 2 [(0, .ref q_this), (1, .int a1)] := hl
  unfold shX4_endAge at hsh
  refine lv_aload_n hx hb dX4_endAge_0 rfl (lv_at hl 0 rfl) ?_
  refine kget (ci := 4) S hK hP rfl inX4_endAge_X4 0 rfl 4 (by decide) lkX4_endAge_24 rfl dX4_endAge_1 ?_
  refine lv_iload_n hx hb dX4_endAge_4 rfl (lv_at hl 1 rfl) ?_
  obtain ⟨_, hg, hsh⟩ := bd hsh
  refine kial S hK hP 1 0 rfl rfl (gd_in hg) dX4_endAge_5 ?_
  have ho := Option.some.inj hsh
  rw [← ho] at hret
  exact hret _ _ _ _ dX4_endAge_6 hP hD hS

/-! DryWells$Villages.runAge -/
noncomputable def shX4_runAge (a1 : Int32) (w_runAges : Nat → Int32) : Option (Int32) :=
  ((gd a1 8).bind fun _ => some (w_runAges (a1).toNatClampNeg))
def wdX4_runAge (cI cJ cZ : ClassId) (q_this q_rocks q_people q_badHoles q_wellPipes q_endAges q_runAges : Nat) (v_size : Int32) (w_runAges : Nat → Int32) : va_W := [(q_this, .inr (4, [.ref q_rocks, .ref q_people, .ref q_badHoles, .ref q_wellPipes, .ref q_endAges, .ref q_runAges, .int v_size])), (q_runAges, .inl (cI, 8, .inl w_runAges))]
abbrev rmX4_runAge : Room := { frames := 0, cells := 0, slots := 0, locals := 0 }
theorem inX4_runAge_X4 : ∀ w ∈ u_ws RX4 TX4 7, w ∈ wsX4_runAge := fun _ h => List.mem_cons_of_mem _ (List.mem_append_right _ h)
theorem lkX4_runAge_27 : Cond.fieldLink RX4 27 (TX4 5).1 (TX4 5).2.1 (TX4 5).2.2.1 ∈ wsX4_runAge := List.mem_of_getElem? (i := 1) rfl
theorem hdX4_runAge : yX4_runAge.cls = RX4 ∧ yX4_runAge.cls ≠ "java/lang/invoke/MethodHandle" ∧ yX4_runAge.cls ≠ "java/lang/invoke/VarHandle" ∧ (parseMethodDescriptor yX4_runAge.desc).map (fun d => d.parameters.length) = some 1 := by decide +kernel
set_option maxHeartbeats 4000000 in
set_option maxRecDepth 100000 in
theorem ctX4_runAge (l : Launch) (D : va_G) (cI cJ cZ : ClassId) (q_this q_rocks q_people q_badHoles q_wellPipes q_endAges q_runAges : Nat) (v_size : Int32) (w_runAges : Nat → Int32) (a1 : Int32) (o : Int32) (hsh : shX4_runAge a1 w_runAges = some o) : CtI l yX4_runAge wsX4_runAge rmX4_runAge D (tys3 cI cJ cZ) noE (wdX4_runAge cI cJ cZ q_this q_rocks q_people q_badHoles q_wellPipes q_endAges q_runAges v_size w_runAges) [.ref q_this, .int a1] o (wdX4_runAge cI cJ cZ q_this q_rocks q_people q_badHoles q_wellPipes q_endAges q_runAges v_size w_runAges) := by
  refine ctI plX4 rfl (Nat.le_of_ble_eq_true rfl) ?_
  intro p e s m below meth c A Q S hK hA hE hret H locs hP hD hS ls hl
  replace S : CallFix p m c cX4_runAge 2 s _ wsX4_runAge RX4 := S
  generalize ([.ref q_this, .int a1] : List Value).toArray = args at S hret ⊢
  obtain ⟨hx, hb, hml, hown, hts⟩ := id S
  replace hl : lv_has ls 2 [(0, .ref q_this), (1, .int a1)] := hl
  unfold shX4_runAge at hsh
  refine lv_aload_n hx hb dX4_runAge_0 rfl (lv_at hl 0 rfl) ?_
  refine kget (ci := 4) S hK hP rfl inX4_runAge_X4 0 rfl 5 (by decide) lkX4_runAge_27 rfl dX4_runAge_1 ?_
  refine lv_iload_n hx hb dX4_runAge_4 rfl (lv_at hl 1 rfl) ?_
  obtain ⟨_, hg, hsh⟩ := bd hsh
  refine kial S hK hP 1 0 rfl rfl (gd_in hg) dX4_runAge_5 ?_
  have ho := Option.some.inj hsh
  rw [← ho] at hret
  exact hret _ _ _ _ dX4_runAge_6 hP hD hS

/-! DryWells$Villages.hasWell -/
noncomputable def shX4_hasWell (a1 : Int32) (w_wellPipes : Nat → Int32) : Option (Int32) :=
  ((gd a1 8).bind fun _ => (if (w_wellPipes (a1).toNatClampNeg) = (-1 : Int32) then some (0 : Int32) else some (1 : Int32)))
def wdX4_hasWell (cI cJ cZ : ClassId) (q_this q_rocks q_people q_badHoles q_wellPipes q_endAges q_runAges : Nat) (v_size : Int32) (w_wellPipes : Nat → Int32) : va_W := [(q_this, .inr (4, [.ref q_rocks, .ref q_people, .ref q_badHoles, .ref q_wellPipes, .ref q_endAges, .ref q_runAges, .int v_size])), (q_wellPipes, .inl (cI, 8, .inl w_wellPipes))]
abbrev rmX4_hasWell : Room := { frames := 0, cells := 0, slots := 0, locals := 0 }
theorem inX4_hasWell_X4 : ∀ w ∈ u_ws RX4 TX4 7, w ∈ wsX4_hasWell := fun _ h => List.mem_cons_of_mem _ (List.mem_append_right _ h)
theorem lkX4_hasWell_21 : Cond.fieldLink RX4 21 (TX4 3).1 (TX4 3).2.1 (TX4 3).2.2.1 ∈ wsX4_hasWell := List.mem_of_getElem? (i := 1) rfl
theorem hdX4_hasWell : yX4_hasWell.cls = RX4 ∧ yX4_hasWell.cls ≠ "java/lang/invoke/MethodHandle" ∧ yX4_hasWell.cls ≠ "java/lang/invoke/VarHandle" ∧ (parseMethodDescriptor yX4_hasWell.desc).map (fun d => d.parameters.length) = some 1 := by decide +kernel
set_option maxHeartbeats 4000000 in
set_option maxRecDepth 100000 in
theorem ctX4_hasWell (l : Launch) (D : va_G) (cI cJ cZ : ClassId) (q_this q_rocks q_people q_badHoles q_wellPipes q_endAges q_runAges : Nat) (v_size : Int32) (w_wellPipes : Nat → Int32) (a1 : Int32) (o : Int32) (hsh : shX4_hasWell a1 w_wellPipes = some o) : CtI l yX4_hasWell wsX4_hasWell rmX4_hasWell D (tys3 cI cJ cZ) noE (wdX4_hasWell cI cJ cZ q_this q_rocks q_people q_badHoles q_wellPipes q_endAges q_runAges v_size w_wellPipes) [.ref q_this, .int a1] o (wdX4_hasWell cI cJ cZ q_this q_rocks q_people q_badHoles q_wellPipes q_endAges q_runAges v_size w_wellPipes) := by
  refine ctZ plX4 rfl (Nat.le_of_ble_eq_true rfl) ?_
  intro p e s m below meth c A Q S hK hA hE hret H locs hP hD hS ls hl
  replace S : CallFix p m c cX4_hasWell 2 s _ wsX4_hasWell RX4 := S
  generalize ([.ref q_this, .int a1] : List Value).toArray = args at S hret ⊢
  obtain ⟨hx, hb, hml, hown, hts⟩ := id S
  replace hl : lv_has ls 2 [(0, .ref q_this), (1, .int a1)] := hl
  unfold shX4_hasWell at hsh
  refine lv_aload_n hx hb dX4_hasWell_0 rfl (lv_at hl 0 rfl) ?_
  refine kget (ci := 4) S hK hP rfl inX4_hasWell_X4 0 rfl 3 (by decide) lkX4_hasWell_21 rfl dX4_hasWell_1 ?_
  refine lv_iload_n hx hb dX4_hasWell_4 rfl (lv_at hl 1 rfl) ?_
  obtain ⟨_, hg, hsh⟩ := bd hsh
  refine kial S hK hP 1 0 rfl rfl (gd_in hg) dX4_hasWell_5 ?_
  refine lv_iconst (v := (-1 : Int32)) hx hb dX4_hasWell_6 (by decide) ?_
  refine lv_icmp_eq (tgt := 14) hx hb dX4_hasWell_7 (by decide) (fun c1 => ?_) (fun c1 => ?_)
  · skip
    have hsh := ite_t hsh c1
    refine lv_iconst (v := (0 : Int32)) hx hb dX4_hasWell_14 (by decide) ?_
    have ho := Option.some.inj hsh
    rw [← ho] at hret
    exact hret _ _ _ _ nar0 dX4_hasWell_15 hP hD hS
  · skip
    have hsh := ite_f hsh c1
    refine lv_iconst (v := (1 : Int32)) hx hb dX4_hasWell_10 (by decide) ?_
    refine lv_goto (tgt := 15) hx hb dX4_hasWell_11 (by decide) ?_
    have ho := Option.some.inj hsh
    rw [← ho] at hret
    exact hret _ _ _ _ nar1 dX4_hasWell_15 hP hD hS

/-! DryWells$Villages.state -/
noncomputable def shX4_state (a1 : Int32) (a2 : Int32) (w_badHoles : Nat → Int32) (w_wellPipes : Nat → Int32) : Option (Int32) :=
  ((shX4_hasWell a1 w_wellPipes).bind fun o_2 => (if o_2 = 0 then ((gd a1 8).bind fun _ => (if (w_badHoles (a1).toNatClampNeg) < a2 then some (0 : Int32) else some (2 : Int32))) else some (1 : Int32)))
def wdX4_state (cI cJ cZ : ClassId) (q_this q_rocks q_people q_badHoles q_wellPipes q_endAges q_runAges : Nat) (v_size : Int32) (w_badHoles : Nat → Int32) (w_wellPipes : Nat → Int32) : va_W := [(q_this, .inr (4, [.ref q_rocks, .ref q_people, .ref q_badHoles, .ref q_wellPipes, .ref q_endAges, .ref q_runAges, .int v_size])), (q_badHoles, .inl (cI, 8, .inl w_badHoles)), (q_wellPipes, .inl (cI, 8, .inl w_wellPipes))]
abbrev rmX4_state : Room := { frames := 1, cells := 0, slots := 0, locals := 21 }
theorem inX4_state_X4 : ∀ w ∈ u_ws RX4 TX4 7, w ∈ wsX4_state := fun _ h => List.mem_cons_of_mem _ (List.mem_append_right _ h)
theorem lkX4_state_18 : Cond.fieldLink RX4 18 (TX4 2).1 (TX4 2).2.1 (TX4 2).2.2.1 ∈ wsX4_state := List.mem_of_getElem? (i := 1) rfl
theorem hdX4_state : yX4_state.cls = RX4 ∧ yX4_state.cls ≠ "java/lang/invoke/MethodHandle" ∧ yX4_state.cls ≠ "java/lang/invoke/VarHandle" ∧ (parseMethodDescriptor yX4_state.desc).map (fun d => d.parameters.length) = some 2 := by decide +kernel
set_option maxHeartbeats 4000000 in
set_option maxRecDepth 100000 in
theorem ctX4_state (l : Launch) (D : va_G) (cI cJ cZ : ClassId) (q_this q_rocks q_people q_badHoles q_wellPipes q_endAges q_runAges : Nat) (v_size : Int32) (w_badHoles : Nat → Int32) (w_wellPipes : Nat → Int32) (a1 : Int32) (a2 : Int32) (o : Int32) (hsh : shX4_state a1 a2 w_badHoles w_wellPipes = some o) : CtI l yX4_state wsX4_state rmX4_state D (tys3 cI cJ cZ) noE (wdX4_state cI cJ cZ q_this q_rocks q_people q_badHoles q_wellPipes q_endAges q_runAges v_size w_badHoles w_wellPipes) [.ref q_this, .int a1, .int a2] o (wdX4_state cI cJ cZ q_this q_rocks q_people q_badHoles q_wellPipes q_endAges q_runAges v_size w_badHoles w_wellPipes) := by
  refine ctI plX4 rfl (Nat.le_of_ble_eq_true rfl) ?_
  intro p e s m below meth c A Q S hK hA hE hret H locs hP hD hS ls hl
  replace S : CallFix p m c cX4_state 3 s _ wsX4_state RX4 := S
  generalize ([.ref q_this, .int a1, .int a2] : List Value).toArray = args at S hret ⊢
  obtain ⟨hx, hb, hml, hown, hts⟩ := id S
  replace hl : lv_has ls 3 [(0, .ref q_this), (1, .int a1), (2, .int a2)] := hl
  unfold shX4_state at hsh
  refine lv_aload_n hx hb dX4_state_0 rfl (lv_at hl 0 rfl) ?_
  refine lv_iload_n hx hb dX4_state_1 rfl (lv_at hl 1 rfl) ?_
  obtain ⟨o_2, he, hsh⟩ := bd hsh
  refine kVi (ci := 4) S hK hA (ctX4_hasWell l D cI cJ cZ q_this q_rocks q_people q_badHoles q_wellPipes q_endAges q_runAges v_size w_wellPipes a1 o_2 he) noE_cl (cwV 1 hts gX4_state_X4_hasWell rfl rfl rfl hdX4_hasWell ⟨Nat.le_of_ble_eq_true rfl, Nat.le_of_ble_eq_true rfl⟩) rfl 0 rfl [0, 2] [1] [1, 0, 2] (ws' := (wdX4_state cI cJ cZ q_this q_rocks q_people q_badHoles q_wellPipes q_endAges q_runAges v_size w_badHoles w_wellPipes)) ⟨rfl, rfl, rfl, rfl, rfl, rfl, rfl⟩ trivial rfl hl.1 rfl (Nat.le_of_ble_eq_true rfl) dX4_state_2 hP hD hS (fun H locs hP hD hS => ?_)
  refine lv_if_eq (tgt := 10) hx hb dX4_state_5 (by decide) (fun c1 => ?_) (fun c1 => ?_)
  · skip
    have hsh := ite_t hsh c1
    refine lv_aload_n hx hb dX4_state_10 rfl (lv_at hl 0 rfl) ?_
    refine kget (ci := 4) S hK hP rfl inX4_state_X4 0 rfl 2 (by decide) lkX4_state_18 rfl dX4_state_11 ?_
    refine lv_iload_n hx hb dX4_state_14 rfl (lv_at hl 1 rfl) ?_
    obtain ⟨_, hg, hsh⟩ := bd hsh
    refine kial S hK hP 1 0 rfl rfl (gd_in hg) dX4_state_15 ?_
    refine lv_iload_n hx hb dX4_state_16 rfl (lv_at hl 2 rfl) ?_
    refine lv_icmp_lt (tgt := 24) hx hb dX4_state_17 (by decide) (fun c1 => ?_) (fun c1 => ?_)
    · skip
      have hsh := ite_t hsh c1
      refine lv_iconst (v := (0 : Int32)) hx hb dX4_state_24 (by decide) ?_
      have ho := Option.some.inj hsh
      rw [← ho] at hret
      exact hret _ _ _ _ dX4_state_25 hP hD hS
    · skip
      have hsh := ite_f hsh c1
      refine lv_iconst (v := (2 : Int32)) hx hb dX4_state_20 (by decide) ?_
      refine lv_goto (tgt := 25) hx hb dX4_state_21 (by decide) ?_
      have ho := Option.some.inj hsh
      rw [← ho] at hret
      exact hret _ _ _ _ dX4_state_25 hP hD hS
  · skip
    have hsh := ite_f hsh c1
    refine lv_iconst (v := (1 : Int32)) hx hb dX4_state_8 (by decide) ?_
    have ho := Option.some.inj hsh
    rw [← ho] at hret
    exact hret _ _ _ _ dX4_state_9 hP hD hS

/-! DryWells$Villages.makeWell -/
noncomputable def shX4_makeWell (a1 : Int32) (a2 : Int32) (w_wellPipes : Nat → Int32) : Option ((Nat → Int32)) :=
  ((gd a1 8).bind fun _ => some (upd w_wellPipes (a1).toNatClampNeg a2))
def wdX4_makeWell (cI cJ cZ : ClassId) (q_this q_rocks q_people q_badHoles q_wellPipes q_endAges q_runAges : Nat) (v_size : Int32) (w_wellPipes : Nat → Int32) : va_W := [(q_this, .inr (4, [.ref q_rocks, .ref q_people, .ref q_badHoles, .ref q_wellPipes, .ref q_endAges, .ref q_runAges, .int v_size])), (q_wellPipes, .inl (cI, 8, .inl w_wellPipes))]
abbrev rmX4_makeWell : Room := { frames := 0, cells := 0, slots := 0, locals := 0 }
theorem inX4_makeWell_X4 : ∀ w ∈ u_ws RX4 TX4 7, w ∈ wsX4_makeWell := fun _ h => List.mem_cons_of_mem _ (List.mem_append_right _ h)
theorem lkX4_makeWell_21 : Cond.fieldLink RX4 21 (TX4 3).1 (TX4 3).2.1 (TX4 3).2.2.1 ∈ wsX4_makeWell := List.mem_of_getElem? (i := 1) rfl
theorem hdX4_makeWell : yX4_makeWell.cls = RX4 ∧ yX4_makeWell.cls ≠ "java/lang/invoke/MethodHandle" ∧ yX4_makeWell.cls ≠ "java/lang/invoke/VarHandle" ∧ (parseMethodDescriptor yX4_makeWell.desc).map (fun d => d.parameters.length) = some 2 := by decide +kernel
set_option maxHeartbeats 4000000 in
set_option maxRecDepth 100000 in
theorem ctX4_makeWell (l : Launch) (D : va_G) (cI cJ cZ : ClassId) (q_this q_rocks q_people q_badHoles q_wellPipes q_endAges q_runAges : Nat) (v_size : Int32) (w_wellPipes : Nat → Int32) (a1 : Int32) (a2 : Int32) (o : (Nat → Int32)) (hsh : shX4_makeWell a1 a2 w_wellPipes = some o) : CtV l yX4_makeWell wsX4_makeWell rmX4_makeWell D (tys3 cI cJ cZ) noE (wdX4_makeWell cI cJ cZ q_this q_rocks q_people q_badHoles q_wellPipes q_endAges q_runAges v_size w_wellPipes) [.ref q_this, .int a1, .int a2]  (wdX4_makeWell cI cJ cZ q_this q_rocks q_people q_badHoles q_wellPipes q_endAges q_runAges v_size o) := by
  refine ctV plX4 rfl (Nat.le_of_ble_eq_true rfl) ?_
  intro p e s m below meth c A Q S hK hA hE hret H locs hP hD hS ls hl
  replace S : CallFix p m c cX4_makeWell 3 s _ wsX4_makeWell RX4 := S
  generalize ([.ref q_this, .int a1, .int a2] : List Value).toArray = args at S hret ⊢
  obtain ⟨hx, hb, hml, hown, hts⟩ := id S
  replace hl : lv_has ls 3 [(0, .ref q_this), (1, .int a1), (2, .int a2)] := hl
  unfold shX4_makeWell at hsh
  refine lv_aload_n hx hb dX4_makeWell_0 rfl (lv_at hl 0 rfl) ?_
  refine kget (ci := 4) S hK hP rfl inX4_makeWell_X4 0 rfl 3 (by decide) lkX4_makeWell_21 rfl dX4_makeWell_1 ?_
  refine lv_iload_n hx hb dX4_makeWell_4 rfl (lv_at hl 1 rfl) ?_
  refine lv_iload_n hx hb dX4_makeWell_5 rfl (lv_at hl 2 rfl) ?_
  obtain ⟨_, hg, hsh⟩ := bd hsh
  refine kias S hK hP hD hS 1 0 rfl rfl (gd_in hg) (ws' := (wdX4_makeWell cI cJ cZ q_this q_rocks q_people q_badHoles q_wellPipes q_endAges q_runAges v_size (upd w_wellPipes (a1).toNatClampNeg a2))) rfl dX4_makeWell_6 (fun H locs hP hD hS => ?_)
  have ho := Option.some.inj hsh
  rw [← ho] at hret
  exact hret _ _ _ _ dX4_makeWell_7 hP hD hS

/-! DryWells$Villages.addBadHole -/
noncomputable def shX4_addBadHole (a1 : Int32) (w_badHoles : Nat → Int32) : Option ((Nat → Int32)) :=
  ((gd a1 8).bind fun _ => ((gd a1 8).bind fun _ => some (upd w_badHoles (a1).toNatClampNeg ((w_badHoles (a1).toNatClampNeg) + (1 : Int32)))))
def wdX4_addBadHole (cI cJ cZ : ClassId) (q_this q_rocks q_people q_badHoles q_wellPipes q_endAges q_runAges : Nat) (v_size : Int32) (w_badHoles : Nat → Int32) : va_W := [(q_this, .inr (4, [.ref q_rocks, .ref q_people, .ref q_badHoles, .ref q_wellPipes, .ref q_endAges, .ref q_runAges, .int v_size])), (q_badHoles, .inl (cI, 8, .inl w_badHoles))]
abbrev rmX4_addBadHole : Room := { frames := 0, cells := 0, slots := 0, locals := 0 }
theorem inX4_addBadHole_X4 : ∀ w ∈ u_ws RX4 TX4 7, w ∈ wsX4_addBadHole := fun _ h => List.mem_cons_of_mem _ (List.mem_append_right _ h)
theorem lkX4_addBadHole_18 : Cond.fieldLink RX4 18 (TX4 2).1 (TX4 2).2.1 (TX4 2).2.2.1 ∈ wsX4_addBadHole := List.mem_of_getElem? (i := 1) rfl
theorem hdX4_addBadHole : yX4_addBadHole.cls = RX4 ∧ yX4_addBadHole.cls ≠ "java/lang/invoke/MethodHandle" ∧ yX4_addBadHole.cls ≠ "java/lang/invoke/VarHandle" ∧ (parseMethodDescriptor yX4_addBadHole.desc).map (fun d => d.parameters.length) = some 1 := by decide +kernel
set_option maxHeartbeats 4000000 in
set_option maxRecDepth 100000 in
theorem ctX4_addBadHole (l : Launch) (D : va_G) (cI cJ cZ : ClassId) (q_this q_rocks q_people q_badHoles q_wellPipes q_endAges q_runAges : Nat) (v_size : Int32) (w_badHoles : Nat → Int32) (a1 : Int32) (o : (Nat → Int32)) (hsh : shX4_addBadHole a1 w_badHoles = some o) : CtV l yX4_addBadHole wsX4_addBadHole rmX4_addBadHole D (tys3 cI cJ cZ) noE (wdX4_addBadHole cI cJ cZ q_this q_rocks q_people q_badHoles q_wellPipes q_endAges q_runAges v_size w_badHoles) [.ref q_this, .int a1]  (wdX4_addBadHole cI cJ cZ q_this q_rocks q_people q_badHoles q_wellPipes q_endAges q_runAges v_size o) := by
  refine ctV plX4 rfl (Nat.le_of_ble_eq_true rfl) ?_
  intro p e s m below meth c A Q S hK hA hE hret H locs hP hD hS ls hl
  replace S : CallFix p m c cX4_addBadHole 2 s _ wsX4_addBadHole RX4 := S
  generalize ([.ref q_this, .int a1] : List Value).toArray = args at S hret ⊢
  obtain ⟨hx, hb, hml, hown, hts⟩ := id S
  replace hl : lv_has ls 2 [(0, .ref q_this), (1, .int a1)] := hl
  unfold shX4_addBadHole at hsh
  refine lv_aload_n hx hb dX4_addBadHole_0 rfl (lv_at hl 0 rfl) ?_
  refine kget (ci := 4) S hK hP rfl inX4_addBadHole_X4 0 rfl 2 (by decide) lkX4_addBadHole_18 rfl dX4_addBadHole_1 ?_
  refine lv_iload_n hx hb dX4_addBadHole_4 rfl (lv_at hl 1 rfl) ?_
  refine lv_dup2_11 hx hb dX4_addBadHole_5 rfl rfl ?_
  obtain ⟨_, hg, hsh⟩ := bd hsh
  refine kial S hK hP 1 0 rfl rfl (gd_in hg) dX4_addBadHole_6 ?_
  refine lv_iconst (v := (1 : Int32)) hx hb dX4_addBadHole_7 (by decide) ?_
  refine lv_iadd hx hb dX4_addBadHole_8 ?_
  obtain ⟨_, hg, hsh⟩ := bd hsh
  refine kias S hK hP hD hS 1 0 rfl rfl (gd_in hg) (ws' := (wdX4_addBadHole cI cJ cZ q_this q_rocks q_people q_badHoles q_wellPipes q_endAges q_runAges v_size (upd w_badHoles (a1).toNatClampNeg ((w_badHoles (a1).toNatClampNeg) + (1 : Int32))))) rfl dX4_addBadHole_9 (fun H locs hP hD hS => ?_)
  have ho := Option.some.inj hsh
  rw [← ho] at hret
  exact hret _ _ _ _ dX4_addBadHole_10 hP hD hS

/-! DryWells$Villages.addVisit -/
noncomputable def shX4_addVisit_j_43 (a1 : Int32) (a2 : Int32) (w_endAges : Nat → Int32) (w_runAges : Nat → Int32) : Option ((Nat → Int32) × (Nat → Int32)) :=
  ((gd a1 8).bind fun _ => some ((upd w_endAges (a1).toNatClampNeg a2), w_runAges))
noncomputable def shX4_addVisit (a1 : Int32) (a2 : Int32) (a3 : Int32) (w_endAges : Nat → Int32) (w_runAges : Nat → Int32) : Option ((Nat → Int32) × (Nat → Int32)) :=
  (if a3 = 0 then ((gd a1 8).bind fun _ => (if (w_endAges (a1).toNatClampNeg) = (-1 : Int32) then (shX4_addVisit_j_43 a1 a2 w_endAges w_runAges) else ((gd a1 8).bind fun _ => (if (w_endAges (a1).toNatClampNeg) ≤ a2 then some (w_endAges, w_runAges) else (shX4_addVisit_j_43 a1 a2 w_endAges w_runAges))))) else ((gd a1 8).bind fun _ => ((gd a1 8).bind fun _ => some (w_endAges, (upd w_runAges (a1).toNatClampNeg (if (w_runAges (a1).toNatClampNeg) < a2 then a2 else (w_runAges (a1).toNatClampNeg)))))))
def wdX4_addVisit (cI cJ cZ : ClassId) (q_this q_rocks q_people q_badHoles q_wellPipes q_endAges q_runAges : Nat) (v_size : Int32) (w_endAges : Nat → Int32) (w_runAges : Nat → Int32) : va_W := [(q_this, .inr (4, [.ref q_rocks, .ref q_people, .ref q_badHoles, .ref q_wellPipes, .ref q_endAges, .ref q_runAges, .int v_size])), (q_endAges, .inl (cI, 8, .inl w_endAges)), (q_runAges, .inl (cI, 8, .inl w_runAges))]
abbrev rmX4_addVisit : Room := { frames := 1, cells := 0, slots := 0, locals := 23 }
theorem inX4_addVisit_X4 : ∀ w ∈ u_ws RX4 TX4 7, w ∈ wsX4_addVisit := fun _ h => List.mem_cons_of_mem _ (List.mem_append_right _ h)
theorem lkX4_addVisit_24 : Cond.fieldLink RX4 24 (TX4 4).1 (TX4 4).2.1 (TX4 4).2.2.1 ∈ wsX4_addVisit := List.mem_of_getElem? (i := 6) rfl
theorem lkX4_addVisit_27 : Cond.fieldLink RX4 27 (TX4 5).1 (TX4 5).2.1 (TX4 5).2.2.1 ∈ wsX4_addVisit := List.mem_of_getElem? (i := 1) rfl
theorem hdX4_addVisit : yX4_addVisit.cls = RX4 ∧ yX4_addVisit.cls ≠ "java/lang/invoke/MethodHandle" ∧ yX4_addVisit.cls ≠ "java/lang/invoke/VarHandle" ∧ (parseMethodDescriptor yX4_addVisit.desc).map (fun d => d.parameters.length) = some 3 := by decide +kernel
set_option maxHeartbeats 4000000 in
set_option maxRecDepth 100000 in
theorem ctX4_addVisit (l : Launch) (D : va_G) (cI cJ cZ : ClassId) (q_this q_rocks q_people q_badHoles q_wellPipes q_endAges q_runAges : Nat) (v_size : Int32) (w_endAges : Nat → Int32) (w_runAges : Nat → Int32) (a1 : Int32) (a2 : Int32) (a3 : Int32) (o : (Nat → Int32) × (Nat → Int32)) (hsh : shX4_addVisit a1 a2 a3 w_endAges w_runAges = some o) : CtV l yX4_addVisit wsX4_addVisit rmX4_addVisit D (tys3 cI cJ cZ) noE (wdX4_addVisit cI cJ cZ q_this q_rocks q_people q_badHoles q_wellPipes q_endAges q_runAges v_size w_endAges w_runAges) [.ref q_this, .int a1, .int a2, .int a3]  (wdX4_addVisit cI cJ cZ q_this q_rocks q_people q_badHoles q_wellPipes q_endAges q_runAges v_size o.1 o.2) := by
  refine ctV plX4 rfl (Nat.le_of_ble_eq_true rfl) ?_
  intro p e s m below meth c A Q S hK hA hE hret H locs hP hD hS ls hl
  replace S : CallFix p m c cX4_addVisit 4 s _ wsX4_addVisit RX4 := S
  generalize ([.ref q_this, .int a1, .int a2, .int a3] : List Value).toArray = args at S hret ⊢
  obtain ⟨hx, hb, hml, hown, hts⟩ := id S
  replace hl : lv_has ls 4 [(0, .ref q_this), (1, .int a1), (2, .int a2), (3, .int a3)] := hl
  unfold shX4_addVisit at hsh
  have Jj_43 : ∀ (H : Heap) (locs : List Loc), va_P D vwCl (wdX4_addVisit cI cJ cZ q_this q_rocks q_people q_badHoles q_wellPipes q_endAges q_runAges v_size w_endAges w_runAges) H → va_D A (wdX4_addVisit cI cJ cZ q_this q_rocks q_people q_badHoles q_wellPipes q_endAges q_runAges v_size w_endAges w_runAges) → va_S A s.heap H locs → ∀ ls : Array Slot, lv_has ls 4 [(0, .ref q_this), (1, .int a1), (2, .int a2)] → shX4_addVisit_j_43 a1 a2 w_endAges w_runAges = some o → W p l e rmX4_addVisit s m args below meth c H locs 0 0 Q (F0 m 43 ls []) := by
    intro  H locs hP hD hS ls hl hsh
    unfold shX4_addVisit_j_43 at hsh
    refine lv_aload_n hx hb dX4_addVisit_43 rfl (lv_at hl 0 rfl) ?_
    refine kget (ci := 4) S hK hP rfl inX4_addVisit_X4 0 rfl 4 (by decide) lkX4_addVisit_24 rfl dX4_addVisit_44 ?_
    refine lv_iload_n hx hb dX4_addVisit_47 rfl (lv_at hl 1 rfl) ?_
    refine lv_iload_n hx hb dX4_addVisit_48 rfl (lv_at hl 2 rfl) ?_
    obtain ⟨_, hg, hsh⟩ := bd hsh
    refine kias S hK hP hD hS 1 0 rfl rfl (gd_in hg) (ws' := (wdX4_addVisit cI cJ cZ q_this q_rocks q_people q_badHoles q_wellPipes q_endAges q_runAges v_size (upd w_endAges (a1).toNatClampNeg a2) w_runAges)) rfl dX4_addVisit_49 (fun H locs hP hD hS => ?_)
    have ho := Option.some.inj hsh
    rw [← ho] at hret
    exact hret _ _ _ _ dX4_addVisit_50 hP hD hS
  refine lv_iload_n hx hb dX4_addVisit_0 rfl (lv_at hl 3 rfl) ?_
  refine lv_if_eq (tgt := 23) hx hb dX4_addVisit_1 (by decide) (fun c1 => ?_) (fun c1 => ?_)
  · skip
    have hsh := ite_t hsh c1
    refine lv_aload_n hx hb dX4_addVisit_23 rfl (lv_at hl 0 rfl) ?_
    refine kget (ci := 4) S hK hP rfl inX4_addVisit_X4 0 rfl 4 (by decide) lkX4_addVisit_24 rfl dX4_addVisit_24 ?_
    refine lv_iload_n hx hb dX4_addVisit_27 rfl (lv_at hl 1 rfl) ?_
    obtain ⟨_, hg, hsh⟩ := bd hsh
    refine kial S hK hP 1 0 rfl rfl (gd_in hg) dX4_addVisit_28 ?_
    refine lv_iconst (v := (-1 : Int32)) hx hb dX4_addVisit_29 (by decide) ?_
    refine lv_icmp_eq (tgt := 43) hx hb dX4_addVisit_30 (by decide) (fun c1 => ?_) (fun c1 => ?_)
    · skip
      have hsh := ite_t hsh c1
      exact Jj_43  H locs hP hD hS ls (lv_sub hl [0, 1, 2] rfl) hsh
    · skip
      have hsh := ite_f hsh c1
      refine lv_iload_n hx hb dX4_addVisit_33 rfl (lv_at hl 2 rfl) ?_
      refine lv_aload_n hx hb dX4_addVisit_34 rfl (lv_at hl 0 rfl) ?_
      refine kget (ci := 4) S hK hP rfl inX4_addVisit_X4 0 rfl 4 (by decide) lkX4_addVisit_24 rfl dX4_addVisit_35 ?_
      refine lv_iload_n hx hb dX4_addVisit_38 rfl (lv_at hl 1 rfl) ?_
      obtain ⟨_, hg, hsh⟩ := bd hsh
      refine kial S hK hP 1 0 rfl rfl (gd_in hg) dX4_addVisit_39 ?_
      refine lv_icmp_ge (tgt := 50) hx hb dX4_addVisit_40 (by decide) (fun c1 => ?_) (fun c1 => ?_)
      · skip
        have hsh := ite_t hsh c1
        have ho := Option.some.inj hsh
        rw [← ho] at hret
        exact hret _ _ _ _ dX4_addVisit_50 hP hD hS
      · skip
        have hsh := ite_f hsh c1
        exact Jj_43  H locs hP hD hS ls (lv_sub hl [0, 1, 2] rfl) hsh
  · skip
    have hsh := ite_f hsh c1
    refine lv_aload_n hx hb dX4_addVisit_4 rfl (lv_at hl 0 rfl) ?_
    refine kget (ci := 4) S hK hP rfl inX4_addVisit_X4 0 rfl 5 (by decide) lkX4_addVisit_27 rfl dX4_addVisit_5 ?_
    refine lv_iload_n hx hb dX4_addVisit_8 rfl (lv_at hl 1 rfl) ?_
    refine lv_aload_n hx hb dX4_addVisit_9 rfl (lv_at hl 0 rfl) ?_
    refine kget (ci := 4) S hK hP rfl inX4_addVisit_X4 0 rfl 5 (by decide) lkX4_addVisit_27 rfl dX4_addVisit_10 ?_
    refine lv_iload_n hx hb dX4_addVisit_13 rfl (lv_at hl 1 rfl) ?_
    obtain ⟨_, hg, hsh⟩ := bd hsh
    refine kial S hK hP 2 0 rfl rfl (gd_in hg) dX4_addVisit_14 ?_
    refine lv_iload_n hx hb dX4_addVisit_15 rfl (lv_at hl 2 rfl) ?_
    refine va_mmax hx hb (S.2.2.1.trans hl.1.symm) hown (hts _ (List.mem_of_getElem? (i := 2) rfl)) (hts _ (List.mem_of_getElem? (i := 3) rfl)) (hts _ (List.mem_of_getElem? (i := 4) rfl)) (hts _ (List.mem_of_getElem? (i := 5) rfl)) (Nat.le_of_ble_eq_true rfl) (Nat.le_of_ble_eq_true rfl) (Nat.le_of_ble_eq_true rfl) (Nat.le_of_ble_eq_true rfl) dX4_addVisit_16 ?_
    obtain ⟨_, hg, hsh⟩ := bd hsh
    refine kias S hK hP hD hS 2 0 rfl rfl (gd_in hg) (ws' := (wdX4_addVisit cI cJ cZ q_this q_rocks q_people q_badHoles q_wellPipes q_endAges q_runAges v_size w_endAges (upd w_runAges (a1).toNatClampNeg (if (w_runAges (a1).toNatClampNeg) < a2 then a2 else (w_runAges (a1).toNatClampNeg))))) rfl dX4_addVisit_19 (fun H locs hP hD hS => ?_)
    refine lv_goto (tgt := 50) hx hb dX4_addVisit_20 (by decide) ?_
    have ho := Option.some.inj hsh
    rw [← ho] at hret
    exact hret _ _ _ _ dX4_addVisit_50 hP hD hS

/-! DryWells$Villages.endsAt -/
noncomputable def shX4_endsAt_j_31 (x2_j_31 : Int32) : Option (Int32) :=
  some x2_j_31
noncomputable def shX4_endsAt_k4_25 (x3_4 : Int32) (x2_k4_25 : Int32) : Option ((Int32 × Int32) ⊕ ((Int32))) :=
  some (Sum.inl (x2_k4_25, (x3_4 + (1 : Int32))))
noncomputable def shX4_endsAt_L4 (a1 : Int32) (v_size : Int32) (w_endAges : Nat → Int32) (x2_4 : Int32) (x3_4 : Int32) : Option ((Int32 × Int32) ⊕ ((Int32))) :=
  (if v_size < x3_4 then some (Sum.inr x2_4) else ((gd x3_4 8).bind fun _ => (if ¬ (w_endAges (x3_4).toNatClampNeg) = a1 then (shX4_endsAt_k4_25 x3_4 x2_4) else (shX4_endsAt_k4_25 x3_4 (x2_4 + (1 : Int32))))))
noncomputable def shX4_endsAt (a1 : Int32) (v_size : Int32) (w_endAges : Nat → Int32) : Option (Int32) :=
  ((lp (fun s : Int32 × Int32 => shX4_endsAt_L4 a1 v_size w_endAges s.1 s.2) ((0 : Int32), (1 : Int32))).bind (fun p : Int32 => shX4_endsAt_j_31 p))
def wdX4_endsAt (cI cJ cZ : ClassId) (q_this q_rocks q_people q_badHoles q_wellPipes q_endAges q_runAges : Nat) (v_size : Int32) (w_endAges : Nat → Int32) : va_W := [(q_this, .inr (4, [.ref q_rocks, .ref q_people, .ref q_badHoles, .ref q_wellPipes, .ref q_endAges, .ref q_runAges, .int v_size])), (q_endAges, .inl (cI, 8, .inl w_endAges))]
abbrev rmX4_endsAt : Room := { frames := 0, cells := 0, slots := 0, locals := 0 }
theorem inX4_endsAt_X4 : ∀ w ∈ u_ws RX4 TX4 7, w ∈ wsX4_endsAt := fun _ h => List.mem_cons_of_mem _ (List.mem_append_right _ h)
theorem lkX4_endsAt_30 : Cond.fieldLink RX4 30 (TX4 6).1 (TX4 6).2.1 (TX4 6).2.2.1 ∈ wsX4_endsAt := List.mem_of_getElem? (i := 1) rfl
theorem lkX4_endsAt_24 : Cond.fieldLink RX4 24 (TX4 4).1 (TX4 4).2.1 (TX4 4).2.2.1 ∈ wsX4_endsAt := List.mem_of_getElem? (i := 2) rfl
theorem hdX4_endsAt : yX4_endsAt.cls = RX4 ∧ yX4_endsAt.cls ≠ "java/lang/invoke/MethodHandle" ∧ yX4_endsAt.cls ≠ "java/lang/invoke/VarHandle" ∧ (parseMethodDescriptor yX4_endsAt.desc).map (fun d => d.parameters.length) = some 1 := by decide +kernel
set_option maxHeartbeats 4000000 in
set_option maxRecDepth 100000 in
theorem ctX4_endsAt (l : Launch) (D : va_G) (cI cJ cZ : ClassId) (q_this q_rocks q_people q_badHoles q_wellPipes q_endAges q_runAges : Nat) (v_size : Int32) (w_endAges : Nat → Int32) (a1 : Int32) (o : Int32) (hsh : shX4_endsAt a1 v_size w_endAges = some o) : CtI l yX4_endsAt wsX4_endsAt rmX4_endsAt D (tys3 cI cJ cZ) noE (wdX4_endsAt cI cJ cZ q_this q_rocks q_people q_badHoles q_wellPipes q_endAges q_runAges v_size w_endAges) [.ref q_this, .int a1] o (wdX4_endsAt cI cJ cZ q_this q_rocks q_people q_badHoles q_wellPipes q_endAges q_runAges v_size w_endAges) := by
  refine ctI plX4 rfl (Nat.le_of_ble_eq_true rfl) ?_
  intro p e s m below meth c A Q S hK hA hE hret H locs hP hD hS ls hl
  replace S : CallFix p m c cX4_endsAt 4 s _ wsX4_endsAt RX4 := S
  generalize ([.ref q_this, .int a1] : List Value).toArray = args at S hret ⊢
  obtain ⟨hx, hb, hml, hown, hts⟩ := id S
  replace hl : lv_has ls 4 [(0, .ref q_this), (1, .int a1)] := hl
  unfold shX4_endsAt at hsh
  have Jj_31 : ∀ (x2_j_31 : Int32) (H : Heap) (locs : List Loc), va_P D vwCl (wdX4_endsAt cI cJ cZ q_this q_rocks q_people q_badHoles q_wellPipes q_endAges q_runAges v_size w_endAges) H → va_D A (wdX4_endsAt cI cJ cZ q_this q_rocks q_people q_badHoles q_wellPipes q_endAges q_runAges v_size w_endAges) → va_S A s.heap H locs → ∀ ls : Array Slot, lv_has ls 4 [(2, .int x2_j_31)] → shX4_endsAt_j_31 x2_j_31 = some o → W p l e rmX4_endsAt s m args below meth c H locs 0 0 Q (F0 m 31 ls []) := by
    intro x2_j_31 H locs hP hD hS ls hl hsh
    unfold shX4_endsAt_j_31 at hsh
    refine lv_iload_n hx hb dX4_endsAt_31 rfl (lv_at hl 0 rfl) ?_
    have ho := Option.some.inj hsh
    rw [← ho] at hret
    exact hret _ _ _ _ dX4_endsAt_32 hP hD hS
  refine lv_iconst (v := (0 : Int32)) hx hb dX4_endsAt_0 (by decide) ?_
  refine lv_istore_n (lv' := [(2, .int (0 : Int32)), (0, .ref q_this), (1, .int a1)]) hx hb dX4_endsAt_1 rfl hl (by decide) rfl (fun ls hl => ?_)
  refine lv_iconst (v := (1 : Int32)) hx hb dX4_endsAt_2 (by decide) ?_
  refine lv_istore_n (lv' := [(3, .int (1 : Int32)), (2, .int (0 : Int32)), (0, .ref q_this), (1, .int a1)]) hx hb dX4_endsAt_3 rfl hl (by decide) rfl (fun ls hl => ?_)
  obtain ⟨r_4, hl_4, hk_4⟩ := bd hsh
  obtain ⟨n_4, hn_4⟩ := lp_iff.mp hl_4
  have L_4 : ∀ (n : Nat) (x2_4 : Int32) (x3_4 : Int32) (H : Heap) (locs : List Loc), va_P D vwCl (wdX4_endsAt cI cJ cZ q_this q_rocks q_people q_badHoles q_wellPipes q_endAges q_runAges v_size w_endAges) H → va_D A (wdX4_endsAt cI cJ cZ q_this q_rocks q_people q_badHoles q_wellPipes q_endAges q_runAges v_size w_endAges) → va_S A s.heap H locs → ∀ ls : Array Slot, lv_has ls 4 [(0, .ref q_this), (1, .int a1), (2, .int x2_4), (3, .int x3_4)] → it (fun s : Int32 × Int32 => shX4_endsAt_L4 a1 v_size w_endAges s.1 s.2) n (x2_4, x3_4) = some r_4 → W p l e rmX4_endsAt s m args below meth c H locs 0 0 Q (F0 m 4 ls []) := by
    intro n
    induction n with
    | zero => exact fun _ _ _ _ _ _ _ _ _ hi => it_0 hi
    | succ n ih_4 =>
      intro x2_4 x3_4 H locs hP hD hS ls hl hi
      obtain ⟨b_4, hsh, hB1_4, hB2_4⟩ := it_b hi
      replace hsh : shX4_endsAt_L4 a1 v_size w_endAges x2_4 x3_4 = some b_4 := hsh
      unfold shX4_endsAt_L4 at hsh
      have Jk4_25 : ∀ (x2_k4_25 : Int32) (H : Heap) (locs : List Loc), va_P D vwCl (wdX4_endsAt cI cJ cZ q_this q_rocks q_people q_badHoles q_wellPipes q_endAges q_runAges v_size w_endAges) H → va_D A (wdX4_endsAt cI cJ cZ q_this q_rocks q_people q_badHoles q_wellPipes q_endAges q_runAges v_size w_endAges) → va_S A s.heap H locs → ∀ ls : Array Slot, lv_has ls 4 [(0, .ref q_this), (1, .int a1), (2, .int x2_k4_25), (3, .int x3_4)] → shX4_endsAt_k4_25 x3_4 x2_k4_25 = some b_4 → W p l e rmX4_endsAt s m args below meth c H locs 0 0 Q (F0 m 25 ls []) := by
        intro x2_k4_25 H locs hP hD hS ls hl hsh
        unfold shX4_endsAt_k4_25 at hsh
        refine lv_iinc (v := (x3_4 + (1 : Int32))) (lv' := [(3, .int (x3_4 + (1 : Int32))), (0, .ref q_this), (1, .int a1), (2, .int x2_k4_25)]) hx hb dX4_endsAt_25 hl (k := 3) rfl (congrArg (fun z : Int32 => x3_4 + z) (by decide)) (by decide) rfl (fun ls hl => ?_)
        refine lv_goto (tgt := 4) hx hb dX4_endsAt_28 (by decide) ?_
        exact ih_4 x2_k4_25 (x3_4 + (1 : Int32)) H locs hP hD hS ls (lv_sub hl [1, 2, 3, 0] rfl) (hB1_4 _ hsh)
      refine lv_iload_n hx hb dX4_endsAt_4 rfl (lv_at hl 3 rfl) ?_
      refine lv_aload_n hx hb dX4_endsAt_5 rfl (lv_at hl 0 rfl) ?_
      refine kget (ci := 4) S hK hP rfl inX4_endsAt_X4 0 rfl 6 (by decide) lkX4_endsAt_30 rfl dX4_endsAt_6 ?_
      refine lv_icmp_gt (tgt := 31) hx hb dX4_endsAt_9 (by decide) (fun c1 => ?_) (fun c1 => ?_)
      · skip
        have hsh := ite_t hsh c1
        have he := hB2_4 _ hsh
        rw [← he] at hk_4
        exact Jj_31 x2_4 H locs hP hD hS ls (lv_sub hl [2] rfl) hk_4
      · skip
        have hsh := ite_f hsh c1
        refine lv_aload_n hx hb dX4_endsAt_12 rfl (lv_at hl 0 rfl) ?_
        refine kget (ci := 4) S hK hP rfl inX4_endsAt_X4 0 rfl 4 (by decide) lkX4_endsAt_24 rfl dX4_endsAt_13 ?_
        refine lv_iload_n hx hb dX4_endsAt_16 rfl (lv_at hl 3 rfl) ?_
        obtain ⟨_, hg, hsh⟩ := bd hsh
        refine kial S hK hP 1 0 rfl rfl (gd_in hg) dX4_endsAt_17 ?_
        refine lv_iload_n hx hb dX4_endsAt_18 rfl (lv_at hl 1 rfl) ?_
        refine lv_icmp_ne (tgt := 25) hx hb dX4_endsAt_19 (by decide) (fun c1 => ?_) (fun c1 => ?_)
        · skip
          have hsh := ite_t hsh c1
          exact Jk4_25 x2_4 H locs hP hD hS ls (lv_sub hl [0, 1, 2, 3] rfl) hsh
        · skip
          have hsh := ite_f hsh (fun h => h c1)
          refine lv_iinc (v := (x2_4 + (1 : Int32))) (lv' := [(2, .int (x2_4 + (1 : Int32))), (0, .ref q_this), (1, .int a1), (3, .int x3_4)]) hx hb dX4_endsAt_22 hl (k := 2) rfl (congrArg (fun z : Int32 => x2_4 + z) (by decide)) (by decide) rfl (fun ls hl => ?_)
          exact Jk4_25 (x2_4 + (1 : Int32)) H locs hP hD hS ls (lv_sub hl [1, 2, 0, 3] rfl) hsh
  exact L_4 n_4 (0 : Int32) (1 : Int32) H locs hP hD hS ls (lv_sub hl [2, 3, 1, 0] rfl) hn_4

/-! DryWells$Villages.knownUpTo -/
noncomputable def shX4_knownUpTo_j_54 (x2_j_54 : Int32) : Option (Int32) :=
  some x2_j_54
noncomputable def shX4_knownUpTo_k4_48 (x3_4 : Int32) (x2_k4_48 : Int32) : Option ((Int32 × Int32) ⊕ ((Int32))) :=
  some (Sum.inl (x2_k4_48, (x3_4 + (1 : Int32))))
noncomputable def shX4_knownUpTo_k4_37 (a1 : Int32) (x2_4 : Int32) (x3_4 : Int32) (s0_k4_37 : Int32) : Option ((Int32 × Int32) ⊕ ((Int32))) :=
  (if s0_k4_37 < a1 then (shX4_knownUpTo_k4_48 x3_4 x2_4) else (shX4_knownUpTo_k4_48 x3_4 (x2_4 + (1 : Int32))))
noncomputable def shX4_knownUpTo_L4 (a1 : Int32) (v_size : Int32) (w_endAges : Nat → Int32) (w_runAges : Nat → Int32) (x2_4 : Int32) (x3_4 : Int32) : Option ((Int32 × Int32) ⊕ ((Int32))) :=
  (if v_size < x3_4 then some (Sum.inr x2_4) else ((gd x3_4 8).bind fun _ => (if ¬ (w_endAges (x3_4).toNatClampNeg) = (-1 : Int32) then ((gd x3_4 8).bind fun _ => (shX4_knownUpTo_k4_37 a1 x2_4 x3_4 (w_endAges (x3_4).toNatClampNeg))) else ((gd x3_4 8).bind fun _ => (shX4_knownUpTo_k4_37 a1 x2_4 x3_4 (w_runAges (x3_4).toNatClampNeg))))))
noncomputable def shX4_knownUpTo (a1 : Int32) (v_size : Int32) (w_endAges : Nat → Int32) (w_runAges : Nat → Int32) : Option (Int32) :=
  ((lp (fun s : Int32 × Int32 => shX4_knownUpTo_L4 a1 v_size w_endAges w_runAges s.1 s.2) ((0 : Int32), (1 : Int32))).bind (fun p : Int32 => shX4_knownUpTo_j_54 p))
def wdX4_knownUpTo (cI cJ cZ : ClassId) (q_this q_rocks q_people q_badHoles q_wellPipes q_endAges q_runAges : Nat) (v_size : Int32) (w_endAges : Nat → Int32) (w_runAges : Nat → Int32) : va_W := [(q_this, .inr (4, [.ref q_rocks, .ref q_people, .ref q_badHoles, .ref q_wellPipes, .ref q_endAges, .ref q_runAges, .int v_size])), (q_endAges, .inl (cI, 8, .inl w_endAges)), (q_runAges, .inl (cI, 8, .inl w_runAges))]
abbrev rmX4_knownUpTo : Room := { frames := 0, cells := 0, slots := 0, locals := 0 }
theorem inX4_knownUpTo_X4 : ∀ w ∈ u_ws RX4 TX4 7, w ∈ wsX4_knownUpTo := fun _ h => List.mem_cons_of_mem _ (List.mem_append_right _ h)
theorem lkX4_knownUpTo_30 : Cond.fieldLink RX4 30 (TX4 6).1 (TX4 6).2.1 (TX4 6).2.2.1 ∈ wsX4_knownUpTo := List.mem_of_getElem? (i := 1) rfl
theorem lkX4_knownUpTo_24 : Cond.fieldLink RX4 24 (TX4 4).1 (TX4 4).2.1 (TX4 4).2.2.1 ∈ wsX4_knownUpTo := List.mem_of_getElem? (i := 2) rfl
theorem lkX4_knownUpTo_27 : Cond.fieldLink RX4 27 (TX4 5).1 (TX4 5).2.1 (TX4 5).2.2.1 ∈ wsX4_knownUpTo := List.mem_of_getElem? (i := 3) rfl
theorem hdX4_knownUpTo : yX4_knownUpTo.cls = RX4 ∧ yX4_knownUpTo.cls ≠ "java/lang/invoke/MethodHandle" ∧ yX4_knownUpTo.cls ≠ "java/lang/invoke/VarHandle" ∧ (parseMethodDescriptor yX4_knownUpTo.desc).map (fun d => d.parameters.length) = some 1 := by decide +kernel
set_option maxHeartbeats 4000000 in
set_option maxRecDepth 100000 in
theorem ctX4_knownUpTo (l : Launch) (D : va_G) (cI cJ cZ : ClassId) (q_this q_rocks q_people q_badHoles q_wellPipes q_endAges q_runAges : Nat) (v_size : Int32) (w_endAges : Nat → Int32) (w_runAges : Nat → Int32) (a1 : Int32) (o : Int32) (hsh : shX4_knownUpTo a1 v_size w_endAges w_runAges = some o) : CtI l yX4_knownUpTo wsX4_knownUpTo rmX4_knownUpTo D (tys3 cI cJ cZ) noE (wdX4_knownUpTo cI cJ cZ q_this q_rocks q_people q_badHoles q_wellPipes q_endAges q_runAges v_size w_endAges w_runAges) [.ref q_this, .int a1] o (wdX4_knownUpTo cI cJ cZ q_this q_rocks q_people q_badHoles q_wellPipes q_endAges q_runAges v_size w_endAges w_runAges) := by
  refine ctI plX4 rfl (Nat.le_of_ble_eq_true rfl) ?_
  intro p e s m below meth c A Q S hK hA hE hret H locs hP hD hS ls hl
  replace S : CallFix p m c cX4_knownUpTo 5 s _ wsX4_knownUpTo RX4 := S
  generalize ([.ref q_this, .int a1] : List Value).toArray = args at S hret ⊢
  obtain ⟨hx, hb, hml, hown, hts⟩ := id S
  replace hl : lv_has ls 5 [(0, .ref q_this), (1, .int a1)] := hl
  unfold shX4_knownUpTo at hsh
  have Jj_54 : ∀ (x2_j_54 : Int32) (H : Heap) (locs : List Loc), va_P D vwCl (wdX4_knownUpTo cI cJ cZ q_this q_rocks q_people q_badHoles q_wellPipes q_endAges q_runAges v_size w_endAges w_runAges) H → va_D A (wdX4_knownUpTo cI cJ cZ q_this q_rocks q_people q_badHoles q_wellPipes q_endAges q_runAges v_size w_endAges w_runAges) → va_S A s.heap H locs → ∀ ls : Array Slot, lv_has ls 5 [(2, .int x2_j_54)] → shX4_knownUpTo_j_54 x2_j_54 = some o → W p l e rmX4_knownUpTo s m args below meth c H locs 0 0 Q (F0 m 54 ls []) := by
    intro x2_j_54 H locs hP hD hS ls hl hsh
    unfold shX4_knownUpTo_j_54 at hsh
    refine lv_iload_n hx hb dX4_knownUpTo_54 rfl (lv_at hl 0 rfl) ?_
    have ho := Option.some.inj hsh
    rw [← ho] at hret
    exact hret _ _ _ _ dX4_knownUpTo_55 hP hD hS
  refine lv_iconst (v := (0 : Int32)) hx hb dX4_knownUpTo_0 (by decide) ?_
  refine lv_istore_n (lv' := [(2, .int (0 : Int32)), (0, .ref q_this), (1, .int a1)]) hx hb dX4_knownUpTo_1 rfl hl (by decide) rfl (fun ls hl => ?_)
  refine lv_iconst (v := (1 : Int32)) hx hb dX4_knownUpTo_2 (by decide) ?_
  refine lv_istore_n (lv' := [(3, .int (1 : Int32)), (2, .int (0 : Int32)), (0, .ref q_this), (1, .int a1)]) hx hb dX4_knownUpTo_3 rfl hl (by decide) rfl (fun ls hl => ?_)
  obtain ⟨r_4, hl_4, hk_4⟩ := bd hsh
  obtain ⟨n_4, hn_4⟩ := lp_iff.mp hl_4
  have L_4 : ∀ (n : Nat) (x2_4 : Int32) (x3_4 : Int32) (H : Heap) (locs : List Loc), va_P D vwCl (wdX4_knownUpTo cI cJ cZ q_this q_rocks q_people q_badHoles q_wellPipes q_endAges q_runAges v_size w_endAges w_runAges) H → va_D A (wdX4_knownUpTo cI cJ cZ q_this q_rocks q_people q_badHoles q_wellPipes q_endAges q_runAges v_size w_endAges w_runAges) → va_S A s.heap H locs → ∀ ls : Array Slot, lv_has ls 5 [(0, .ref q_this), (1, .int a1), (2, .int x2_4), (3, .int x3_4)] → it (fun s : Int32 × Int32 => shX4_knownUpTo_L4 a1 v_size w_endAges w_runAges s.1 s.2) n (x2_4, x3_4) = some r_4 → W p l e rmX4_knownUpTo s m args below meth c H locs 0 0 Q (F0 m 4 ls []) := by
    intro n
    induction n with
    | zero => exact fun _ _ _ _ _ _ _ _ _ hi => it_0 hi
    | succ n ih_4 =>
      intro x2_4 x3_4 H locs hP hD hS ls hl hi
      obtain ⟨b_4, hsh, hB1_4, hB2_4⟩ := it_b hi
      replace hsh : shX4_knownUpTo_L4 a1 v_size w_endAges w_runAges x2_4 x3_4 = some b_4 := hsh
      unfold shX4_knownUpTo_L4 at hsh
      have Jk4_48 : ∀ (x2_k4_48 : Int32) (H : Heap) (locs : List Loc), va_P D vwCl (wdX4_knownUpTo cI cJ cZ q_this q_rocks q_people q_badHoles q_wellPipes q_endAges q_runAges v_size w_endAges w_runAges) H → va_D A (wdX4_knownUpTo cI cJ cZ q_this q_rocks q_people q_badHoles q_wellPipes q_endAges q_runAges v_size w_endAges w_runAges) → va_S A s.heap H locs → ∀ ls : Array Slot, lv_has ls 5 [(0, .ref q_this), (1, .int a1), (2, .int x2_k4_48), (3, .int x3_4)] → shX4_knownUpTo_k4_48 x3_4 x2_k4_48 = some b_4 → W p l e rmX4_knownUpTo s m args below meth c H locs 0 0 Q (F0 m 48 ls []) := by
        intro x2_k4_48 H locs hP hD hS ls hl hsh
        unfold shX4_knownUpTo_k4_48 at hsh
        refine lv_iinc (v := (x3_4 + (1 : Int32))) (lv' := [(3, .int (x3_4 + (1 : Int32))), (0, .ref q_this), (1, .int a1), (2, .int x2_k4_48)]) hx hb dX4_knownUpTo_48 hl (k := 3) rfl (congrArg (fun z : Int32 => x3_4 + z) (by decide)) (by decide) rfl (fun ls hl => ?_)
        refine lv_goto (tgt := 4) hx hb dX4_knownUpTo_51 (by decide) ?_
        exact ih_4 x2_k4_48 (x3_4 + (1 : Int32)) H locs hP hD hS ls (lv_sub hl [1, 2, 3, 0] rfl) (hB1_4 _ hsh)
      have Jk4_37 : ∀ (s0_k4_37 : Int32) (H : Heap) (locs : List Loc), va_P D vwCl (wdX4_knownUpTo cI cJ cZ q_this q_rocks q_people q_badHoles q_wellPipes q_endAges q_runAges v_size w_endAges w_runAges) H → va_D A (wdX4_knownUpTo cI cJ cZ q_this q_rocks q_people q_badHoles q_wellPipes q_endAges q_runAges v_size w_endAges w_runAges) → va_S A s.heap H locs → ∀ ls : Array Slot, lv_has ls 5 [(0, .ref q_this), (1, .int a1), (2, .int x2_4), (3, .int x3_4)] → shX4_knownUpTo_k4_37 a1 x2_4 x3_4 s0_k4_37 = some b_4 → W p l e rmX4_knownUpTo s m args below meth c H locs 0 0 Q (F0 m 37 ls [.int s0_k4_37]) := by
        intro s0_k4_37 H locs hP hD hS ls hl hsh
        unfold shX4_knownUpTo_k4_37 at hsh
        refine lv_istore (lv' := [(4, .int s0_k4_37), (0, .ref q_this), (1, .int a1), (2, .int x2_4), (3, .int x3_4)]) hx hb dX4_knownUpTo_37 hl (by decide) rfl (fun ls hl => ?_)
        refine lv_iload hx hb dX4_knownUpTo_39 (lv_at hl 0 rfl) ?_
        refine lv_iload_n hx hb dX4_knownUpTo_41 rfl (lv_at hl 2 rfl) ?_
        refine lv_icmp_lt (tgt := 48) hx hb dX4_knownUpTo_42 (by decide) (fun c1 => ?_) (fun c1 => ?_)
        · skip
          have hsh := ite_t hsh c1
          exact Jk4_48 x2_4 H locs hP hD hS ls (lv_sub hl [1, 2, 3, 4] rfl) hsh
        · skip
          have hsh := ite_f hsh c1
          refine lv_iinc (v := (x2_4 + (1 : Int32))) (lv' := [(2, .int (x2_4 + (1 : Int32))), (4, .int s0_k4_37), (0, .ref q_this), (1, .int a1), (3, .int x3_4)]) hx hb dX4_knownUpTo_45 hl (k := 3) rfl (congrArg (fun z : Int32 => x2_4 + z) (by decide)) (by decide) rfl (fun ls hl => ?_)
          exact Jk4_48 (x2_4 + (1 : Int32)) H locs hP hD hS ls (lv_sub hl [2, 3, 0, 4] rfl) hsh
      refine lv_iload_n hx hb dX4_knownUpTo_4 rfl (lv_at hl 3 rfl) ?_
      refine lv_aload_n hx hb dX4_knownUpTo_5 rfl (lv_at hl 0 rfl) ?_
      refine kget (ci := 4) S hK hP rfl inX4_knownUpTo_X4 0 rfl 6 (by decide) lkX4_knownUpTo_30 rfl dX4_knownUpTo_6 ?_
      refine lv_icmp_gt (tgt := 54) hx hb dX4_knownUpTo_9 (by decide) (fun c1 => ?_) (fun c1 => ?_)
      · skip
        have hsh := ite_t hsh c1
        have he := hB2_4 _ hsh
        rw [← he] at hk_4
        exact Jj_54 x2_4 H locs hP hD hS ls (lv_sub hl [2] rfl) hk_4
      · skip
        have hsh := ite_f hsh c1
        refine lv_aload_n hx hb dX4_knownUpTo_12 rfl (lv_at hl 0 rfl) ?_
        refine kget (ci := 4) S hK hP rfl inX4_knownUpTo_X4 0 rfl 4 (by decide) lkX4_knownUpTo_24 rfl dX4_knownUpTo_13 ?_
        refine lv_iload_n hx hb dX4_knownUpTo_16 rfl (lv_at hl 3 rfl) ?_
        obtain ⟨_, hg, hsh⟩ := bd hsh
        refine kial S hK hP 1 0 rfl rfl (gd_in hg) dX4_knownUpTo_17 ?_
        refine lv_iconst (v := (-1 : Int32)) hx hb dX4_knownUpTo_18 (by decide) ?_
        refine lv_icmp_ne (tgt := 31) hx hb dX4_knownUpTo_19 (by decide) (fun c1 => ?_) (fun c1 => ?_)
        · skip
          have hsh := ite_t hsh c1
          refine lv_aload_n hx hb dX4_knownUpTo_31 rfl (lv_at hl 0 rfl) ?_
          refine kget (ci := 4) S hK hP rfl inX4_knownUpTo_X4 0 rfl 4 (by decide) lkX4_knownUpTo_24 rfl dX4_knownUpTo_32 ?_
          refine lv_iload_n hx hb dX4_knownUpTo_35 rfl (lv_at hl 3 rfl) ?_
          obtain ⟨_, hg, hsh⟩ := bd hsh
          refine kial S hK hP 1 0 rfl rfl (gd_in hg) dX4_knownUpTo_36 ?_
          exact Jk4_37 (w_endAges (x3_4).toNatClampNeg) H locs hP hD hS ls (lv_sub hl [0, 1, 2, 3] rfl) hsh
        · skip
          have hsh := ite_f hsh (fun h => h c1)
          refine lv_aload_n hx hb dX4_knownUpTo_22 rfl (lv_at hl 0 rfl) ?_
          refine kget (ci := 4) S hK hP rfl inX4_knownUpTo_X4 0 rfl 5 (by decide) lkX4_knownUpTo_27 rfl dX4_knownUpTo_23 ?_
          refine lv_iload_n hx hb dX4_knownUpTo_26 rfl (lv_at hl 3 rfl) ?_
          obtain ⟨_, hg, hsh⟩ := bd hsh
          refine kial S hK hP 2 0 rfl rfl (gd_in hg) dX4_knownUpTo_27 ?_
          refine lv_goto (tgt := 37) hx hb dX4_knownUpTo_28 (by decide) ?_
          exact Jk4_37 (w_runAges (x3_4).toNatClampNeg) H locs hP hD hS ls (lv_sub hl [0, 1, 2, 3] rfl) hsh
  exact L_4 n_4 (0 : Int32) (1 : Int32) H locs hP hD hS ls (lv_sub hl [2, 3, 1, 0] rfl) hn_4

/-! DryWells$Villages.peopleWithWater -/
noncomputable def shX4_peopleWithWater_j_35 (x1_j_35 : Int32) : Option (Int32) :=
  some x1_j_35
noncomputable def shX4_peopleWithWater_k4_29 (x2_4 : Int32) (x1_k4_29 : Int32) : Option ((Int32 × Int32) ⊕ ((Int32))) :=
  some (Sum.inl (x1_k4_29, (x2_4 + (1 : Int32))))
noncomputable def shX4_peopleWithWater_L4 (v_size : Int32) (w_people : Nat → Int32) (w_wellPipes : Nat → Int32) (x1_4 : Int32) (x2_4 : Int32) : Option ((Int32 × Int32) ⊕ ((Int32))) :=
  (if v_size < x2_4 then some (Sum.inr x1_4) else ((shX4_hasWell x2_4 w_wellPipes).bind fun o_14 => (if o_14 = 0 then (shX4_peopleWithWater_k4_29 x2_4 x1_4) else ((gd x2_4 8).bind fun _ => (shX4_peopleWithWater_k4_29 x2_4 (x1_4 + (w_people (x2_4).toNatClampNeg)))))))
noncomputable def shX4_peopleWithWater (v_size : Int32) (w_people : Nat → Int32) (w_wellPipes : Nat → Int32) : Option (Int32) :=
  ((lp (fun s : Int32 × Int32 => shX4_peopleWithWater_L4 v_size w_people w_wellPipes s.1 s.2) ((0 : Int32), (1 : Int32))).bind (fun p : Int32 => shX4_peopleWithWater_j_35 p))
def wdX4_peopleWithWater (cI cJ cZ : ClassId) (q_this q_rocks q_people q_badHoles q_wellPipes q_endAges q_runAges : Nat) (v_size : Int32) (w_people : Nat → Int32) (w_wellPipes : Nat → Int32) : va_W := [(q_this, .inr (4, [.ref q_rocks, .ref q_people, .ref q_badHoles, .ref q_wellPipes, .ref q_endAges, .ref q_runAges, .int v_size])), (q_people, .inl (cI, 8, .inl w_people)), (q_wellPipes, .inl (cI, 8, .inl w_wellPipes))]
abbrev rmX4_peopleWithWater : Room := { frames := 1, cells := 0, slots := 0, locals := 21 }
theorem inX4_peopleWithWater_X4 : ∀ w ∈ u_ws RX4 TX4 7, w ∈ wsX4_peopleWithWater := fun _ h => List.mem_cons_of_mem _ (List.mem_append_right _ h)
theorem lkX4_peopleWithWater_30 : Cond.fieldLink RX4 30 (TX4 6).1 (TX4 6).2.1 (TX4 6).2.2.1 ∈ wsX4_peopleWithWater := List.mem_of_getElem? (i := 1) rfl
theorem lkX4_peopleWithWater_15 : Cond.fieldLink RX4 15 (TX4 1).1 (TX4 1).2.1 (TX4 1).2.2.1 ∈ wsX4_peopleWithWater := List.mem_of_getElem? (i := 2) rfl
theorem hdX4_peopleWithWater : yX4_peopleWithWater.cls = RX4 ∧ yX4_peopleWithWater.cls ≠ "java/lang/invoke/MethodHandle" ∧ yX4_peopleWithWater.cls ≠ "java/lang/invoke/VarHandle" ∧ (parseMethodDescriptor yX4_peopleWithWater.desc).map (fun d => d.parameters.length) = some 0 := by decide +kernel
set_option maxHeartbeats 4000000 in
set_option maxRecDepth 100000 in
theorem ctX4_peopleWithWater (l : Launch) (D : va_G) (cI cJ cZ : ClassId) (q_this q_rocks q_people q_badHoles q_wellPipes q_endAges q_runAges : Nat) (v_size : Int32) (w_people : Nat → Int32) (w_wellPipes : Nat → Int32)  (o : Int32) (hsh : shX4_peopleWithWater v_size w_people w_wellPipes = some o) : CtI l yX4_peopleWithWater wsX4_peopleWithWater rmX4_peopleWithWater D (tys3 cI cJ cZ) noE (wdX4_peopleWithWater cI cJ cZ q_this q_rocks q_people q_badHoles q_wellPipes q_endAges q_runAges v_size w_people w_wellPipes) [.ref q_this] o (wdX4_peopleWithWater cI cJ cZ q_this q_rocks q_people q_badHoles q_wellPipes q_endAges q_runAges v_size w_people w_wellPipes) := by
  refine ctI plX4 rfl (Nat.le_of_ble_eq_true rfl) ?_
  intro p e s m below meth c A Q S hK hA hE hret H locs hP hD hS ls hl
  replace S : CallFix p m c cX4_peopleWithWater 3 s _ wsX4_peopleWithWater RX4 := S
  generalize ([.ref q_this] : List Value).toArray = args at S hret ⊢
  obtain ⟨hx, hb, hml, hown, hts⟩ := id S
  replace hl : lv_has ls 3 [(0, .ref q_this)] := hl
  unfold shX4_peopleWithWater at hsh
  have Jj_35 : ∀ (x1_j_35 : Int32) (H : Heap) (locs : List Loc), va_P D vwCl (wdX4_peopleWithWater cI cJ cZ q_this q_rocks q_people q_badHoles q_wellPipes q_endAges q_runAges v_size w_people w_wellPipes) H → va_D A (wdX4_peopleWithWater cI cJ cZ q_this q_rocks q_people q_badHoles q_wellPipes q_endAges q_runAges v_size w_people w_wellPipes) → va_S A s.heap H locs → ∀ ls : Array Slot, lv_has ls 3 [(1, .int x1_j_35)] → shX4_peopleWithWater_j_35 x1_j_35 = some o → W p l e rmX4_peopleWithWater s m args below meth c H locs 0 0 Q (F0 m 35 ls []) := by
    intro x1_j_35 H locs hP hD hS ls hl hsh
    unfold shX4_peopleWithWater_j_35 at hsh
    refine lv_iload_n hx hb dX4_peopleWithWater_35 rfl (lv_at hl 0 rfl) ?_
    have ho := Option.some.inj hsh
    rw [← ho] at hret
    exact hret _ _ _ _ dX4_peopleWithWater_36 hP hD hS
  refine lv_iconst (v := (0 : Int32)) hx hb dX4_peopleWithWater_0 (by decide) ?_
  refine lv_istore_n (lv' := [(1, .int (0 : Int32)), (0, .ref q_this)]) hx hb dX4_peopleWithWater_1 rfl hl (by decide) rfl (fun ls hl => ?_)
  refine lv_iconst (v := (1 : Int32)) hx hb dX4_peopleWithWater_2 (by decide) ?_
  refine lv_istore_n (lv' := [(2, .int (1 : Int32)), (1, .int (0 : Int32)), (0, .ref q_this)]) hx hb dX4_peopleWithWater_3 rfl hl (by decide) rfl (fun ls hl => ?_)
  obtain ⟨r_4, hl_4, hk_4⟩ := bd hsh
  obtain ⟨n_4, hn_4⟩ := lp_iff.mp hl_4
  have L_4 : ∀ (n : Nat) (x1_4 : Int32) (x2_4 : Int32) (H : Heap) (locs : List Loc), va_P D vwCl (wdX4_peopleWithWater cI cJ cZ q_this q_rocks q_people q_badHoles q_wellPipes q_endAges q_runAges v_size w_people w_wellPipes) H → va_D A (wdX4_peopleWithWater cI cJ cZ q_this q_rocks q_people q_badHoles q_wellPipes q_endAges q_runAges v_size w_people w_wellPipes) → va_S A s.heap H locs → ∀ ls : Array Slot, lv_has ls 3 [(0, .ref q_this), (1, .int x1_4), (2, .int x2_4)] → it (fun s : Int32 × Int32 => shX4_peopleWithWater_L4 v_size w_people w_wellPipes s.1 s.2) n (x1_4, x2_4) = some r_4 → W p l e rmX4_peopleWithWater s m args below meth c H locs 0 0 Q (F0 m 4 ls []) := by
    intro n
    induction n with
    | zero => exact fun _ _ _ _ _ _ _ _ _ hi => it_0 hi
    | succ n ih_4 =>
      intro x1_4 x2_4 H locs hP hD hS ls hl hi
      obtain ⟨b_4, hsh, hB1_4, hB2_4⟩ := it_b hi
      replace hsh : shX4_peopleWithWater_L4 v_size w_people w_wellPipes x1_4 x2_4 = some b_4 := hsh
      unfold shX4_peopleWithWater_L4 at hsh
      have Jk4_29 : ∀ (x1_k4_29 : Int32) (H : Heap) (locs : List Loc), va_P D vwCl (wdX4_peopleWithWater cI cJ cZ q_this q_rocks q_people q_badHoles q_wellPipes q_endAges q_runAges v_size w_people w_wellPipes) H → va_D A (wdX4_peopleWithWater cI cJ cZ q_this q_rocks q_people q_badHoles q_wellPipes q_endAges q_runAges v_size w_people w_wellPipes) → va_S A s.heap H locs → ∀ ls : Array Slot, lv_has ls 3 [(0, .ref q_this), (1, .int x1_k4_29), (2, .int x2_4)] → shX4_peopleWithWater_k4_29 x2_4 x1_k4_29 = some b_4 → W p l e rmX4_peopleWithWater s m args below meth c H locs 0 0 Q (F0 m 29 ls []) := by
        intro x1_k4_29 H locs hP hD hS ls hl hsh
        unfold shX4_peopleWithWater_k4_29 at hsh
        refine lv_iinc (v := (x2_4 + (1 : Int32))) (lv' := [(2, .int (x2_4 + (1 : Int32))), (0, .ref q_this), (1, .int x1_k4_29)]) hx hb dX4_peopleWithWater_29 hl (k := 2) rfl (congrArg (fun z : Int32 => x2_4 + z) (by decide)) (by decide) rfl (fun ls hl => ?_)
        refine lv_goto (tgt := 4) hx hb dX4_peopleWithWater_32 (by decide) ?_
        exact ih_4 x1_k4_29 (x2_4 + (1 : Int32)) H locs hP hD hS ls (lv_sub hl [1, 2, 0] rfl) (hB1_4 _ hsh)
      refine lv_iload_n hx hb dX4_peopleWithWater_4 rfl (lv_at hl 2 rfl) ?_
      refine lv_aload_n hx hb dX4_peopleWithWater_5 rfl (lv_at hl 0 rfl) ?_
      refine kget (ci := 4) S hK hP rfl inX4_peopleWithWater_X4 0 rfl 6 (by decide) lkX4_peopleWithWater_30 rfl dX4_peopleWithWater_6 ?_
      refine lv_icmp_gt (tgt := 35) hx hb dX4_peopleWithWater_9 (by decide) (fun c1 => ?_) (fun c1 => ?_)
      · skip
        have hsh := ite_t hsh c1
        have he := hB2_4 _ hsh
        rw [← he] at hk_4
        exact Jj_35 x1_4 H locs hP hD hS ls (lv_sub hl [1] rfl) hk_4
      · skip
        have hsh := ite_f hsh c1
        refine lv_aload_n hx hb dX4_peopleWithWater_12 rfl (lv_at hl 0 rfl) ?_
        refine lv_iload_n hx hb dX4_peopleWithWater_13 rfl (lv_at hl 2 rfl) ?_
        obtain ⟨o_14, he, hsh⟩ := bd hsh
        refine kVi (ci := 4) S hK hA (ctX4_hasWell l D cI cJ cZ q_this q_rocks q_people q_badHoles q_wellPipes q_endAges q_runAges v_size w_wellPipes x2_4 o_14 he) noE_cl (cwV 1 hts gX4_peopleWithWater_X4_hasWell rfl rfl rfl hdX4_hasWell ⟨Nat.le_of_ble_eq_true rfl, Nat.le_of_ble_eq_true rfl⟩) rfl 0 rfl [0, 2] [1] [1, 0, 2] (ws' := (wdX4_peopleWithWater cI cJ cZ q_this q_rocks q_people q_badHoles q_wellPipes q_endAges q_runAges v_size w_people w_wellPipes)) ⟨rfl, rfl, rfl, rfl, rfl, rfl, rfl⟩ trivial rfl hl.1 rfl (Nat.le_of_ble_eq_true rfl) dX4_peopleWithWater_14 hP hD hS (fun H locs hP hD hS => ?_)
        refine lv_if_eq (tgt := 29) hx hb dX4_peopleWithWater_17 (by decide) (fun c1 => ?_) (fun c1 => ?_)
        · skip
          have hsh := ite_t hsh c1
          exact Jk4_29 x1_4 H locs hP hD hS ls (lv_sub hl [0, 1, 2] rfl) hsh
        · skip
          have hsh := ite_f hsh c1
          refine lv_iload_n hx hb dX4_peopleWithWater_20 rfl (lv_at hl 1 rfl) ?_
          refine lv_aload_n hx hb dX4_peopleWithWater_21 rfl (lv_at hl 0 rfl) ?_
          refine kget (ci := 4) S hK hP rfl inX4_peopleWithWater_X4 0 rfl 1 (by decide) lkX4_peopleWithWater_15 rfl dX4_peopleWithWater_22 ?_
          refine lv_iload_n hx hb dX4_peopleWithWater_25 rfl (lv_at hl 2 rfl) ?_
          obtain ⟨_, hg, hsh⟩ := bd hsh
          refine kial S hK hP 1 0 rfl rfl (gd_in hg) dX4_peopleWithWater_26 ?_
          refine lv_iadd hx hb dX4_peopleWithWater_27 ?_
          refine lv_istore_n (lv' := [(1, .int (x1_4 + (w_people (x2_4).toNatClampNeg))), (0, .ref q_this), (2, .int x2_4)]) hx hb dX4_peopleWithWater_28 rfl hl (by decide) rfl (fun ls hl => ?_)
          exact Jk4_29 (x1_4 + (w_people (x2_4).toNatClampNeg)) H locs hP hD hS ls (lv_sub hl [1, 0, 2] rfl) hsh
  exact L_4 n_4 (0 : Int32) (1 : Int32) H locs hP hD hS ls (lv_sub hl [2, 1, 0] rfl) hn_4
