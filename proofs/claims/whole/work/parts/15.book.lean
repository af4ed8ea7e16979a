/-! DryWells$Book.salt -/
noncomputable def shX0_salt (w_numbers : Nat → Int32) : Option (Int32) :=
  some (w_numbers ((0 : Int32)).toNatClampNeg)
def wdX0_salt (cI cJ cZ : ClassId) (q_this q_numbers q_fresh q_told : Nat) (v_faultKind : Int32) (v_faultPlace : Int32) (v_at : Int32) (v_end : Int32) (w_numbers : Nat → Int32) : va_W := [(q_this, .inr (0, [.ref q_numbers, .ref q_fresh, .ref q_told, .int v_faultKind, .int v_faultPlace, .int v_at, .int v_end])), (q_numbers, .inl (cI, 3, .inl w_numbers))]
abbrev rmX0_salt : Room := { frames := 0, cells := 0, slots := 0, locals := 0 }
theorem inX0_salt_X0 : ∀ w ∈ u_ws RX0 TX0 7, w ∈ wsX0_salt := fun _ h => List.mem_cons_of_mem _ (List.mem_append_right _ h)
theorem lkX0_salt_9 : Cond.fieldLink RX0 9 (TX0 0).1 (TX0 0).2.1 (TX0 0).2.2.1 ∈ wsX0_salt := List.mem_of_getElem? (i := 1) rfl
theorem hdX0_salt : yX0_salt.cls = RX0 ∧ yX0_salt.cls ≠ "java/lang/invoke/MethodHandle" ∧ yX0_salt.cls ≠ "java/lang/invoke/VarHandle" ∧ (parseMethodDescriptor yX0_salt.desc).map (fun d => d.parameters.length) = some 0 := by decide +kernel
set_option maxHeartbeats 4000000 in
set_option maxRecDepth 100000 in
theorem ctX0_salt (l : Launch) (D : va_G) (cI cJ cZ : ClassId) (q_this q_numbers q_fresh q_told : Nat) (v_faultKind : Int32) (v_faultPlace : Int32) (v_at : Int32) (v_end : Int32) (w_numbers : Nat → Int32)  (o : Int32) (hsh : shX0_salt w_numbers = some o) : CtI l yX0_salt wsX0_salt rmX0_salt D (tys3 cI cJ cZ) noE (wdX0_salt cI cJ cZ q_this q_numbers q_fresh q_told v_faultKind v_faultPlace v_at v_end w_numbers) [.ref q_this] o (wdX0_salt cI cJ cZ q_this q_numbers q_fresh q_told v_faultKind v_faultPlace v_at v_end w_numbers) := by
  refine ctI plX0 rfl (Nat.le_of_ble_eq_true rfl) ?_
  intro p e s m below meth c A Q S hK hA hE hret H locs hP hD hS ls hl
  replace S : CallFix p m c cX0_salt 1 s _ wsX0_salt RX0 := S
  generalize ([.ref q_this] : List Value).toArray = args at S hret ⊢
  obtain ⟨hx, hb, hml, hown, hts⟩ := id S
  replace hl : lv_has ls 1 [(0, .ref q_this)] := hl
  unfold shX0_salt at hsh
  refine lv_aload_n hx hb dX0_salt_0 rfl (lv_at hl 0 rfl) ?_
  refine kget (ci := 0) S hK hP rfl inX0_salt_X0 0 rfl 0 (by decide) lkX0_salt_9 rfl dX0_salt_1 ?_
  refine lv_iconst (v := (0 : Int32)) hx hb dX0_salt_4 (by decide) ?_
  refine kial S hK hP 1 0 rfl rfl (vin (by decide)) dX0_salt_5 ?_
  have ho := Option.some.inj hsh
  rw [← ho] at hret
  exact hret _ _ _ _ dX0_salt_6 hP hD hS

/-! DryWells$Book.dry -/
noncomputable def shX0_dry (w_numbers : Nat → Int32) : Option (Int32) :=
  some (w_numbers ((1 : Int32)).toNatClampNeg)
def wdX0_dry (cI cJ cZ : ClassId) (q_this q_numbers q_fresh q_told : Nat) (v_faultKind : Int32) (v_faultPlace : Int32) (v_at : Int32) (v_end : Int32) (w_numbers : Nat → Int32) : va_W := [(q_this, .inr (0, [.ref q_numbers, .ref q_fresh, .ref q_told, .int v_faultKind, .int v_faultPlace, .int v_at, .int v_end])), (q_numbers, .inl (cI, 3, .inl w_numbers))]
abbrev rmX0_dry : Room := { frames := 0, cells := 0, slots := 0, locals := 0 }
theorem inX0_dry_X0 : ∀ w ∈ u_ws RX0 TX0 7, w ∈ wsX0_dry := fun _ h => List.mem_cons_of_mem _ (List.mem_append_right _ h)
theorem lkX0_dry_9 : Cond.fieldLink RX0 9 (TX0 0).1 (TX0 0).2.1 (TX0 0).2.2.1 ∈ wsX0_dry := List.mem_of_getElem? (i := 1) rfl
theorem hdX0_dry : yX0_dry.cls = RX0 ∧ yX0_dry.cls ≠ "java/lang/invoke/MethodHandle" ∧ yX0_dry.cls ≠ "java/lang/invoke/VarHandle" ∧ (parseMethodDescriptor yX0_dry.desc).map (fun d => d.parameters.length) = some 0 := by decide +kernel
set_option maxHeartbeats 4000000 in
set_option maxRecDepth 100000 in
theorem ctX0_dry (l : Launch) (D : va_G) (cI cJ cZ : ClassId) (q_this q_numbers q_fresh q_told : Nat) (v_faultKind : Int32) (v_faultPlace : Int32) (v_at : Int32) (v_end : Int32) (w_numbers : Nat → Int32)  (o : Int32) (hsh : shX0_dry w_numbers = some o) : CtI l yX0_dry wsX0_dry rmX0_dry D (tys3 cI cJ cZ) noE (wdX0_dry cI cJ cZ q_this q_numbers q_fresh q_told v_faultKind v_faultPlace v_at v_end w_numbers) [.ref q_this] o (wdX0_dry cI cJ cZ q_this q_numbers q_fresh q_told v_faultKind v_faultPlace v_at v_end w_numbers) := by
  refine ctI plX0 rfl (Nat.le_of_ble_eq_true rfl) ?_
  intro p e s m below meth c A Q S hK hA hE hret H locs hP hD hS ls hl
  replace S : CallFix p m c cX0_dry 1 s _ wsX0_dry RX0 := S
  generalize ([.ref q_this] : List Value).toArray = args at S hret ⊢
  obtain ⟨hx, hb, hml, hown, hts⟩ := id S
  replace hl : lv_has ls 1 [(0, .ref q_this)] := hl
  unfold shX0_dry at hsh
  refine lv_aload_n hx hb dX0_dry_0 rfl (lv_at hl 0 rfl) ?_
  refine kget (ci := 0) S hK hP rfl inX0_dry_X0 0 rfl 0 (by decide) lkX0_dry_9 rfl dX0_dry_1 ?_
  refine lv_iconst (v := (1 : Int32)) hx hb dX0_dry_4 (by decide) ?_
  refine kial S hK hP 1 0 rfl rfl (vin (by decide)) dX0_dry_5 ?_
  have ho := Option.some.inj hsh
  rw [← ho] at hret
  exact hret _ _ _ _ dX0_dry_6 hP hD hS

/-! DryWells$Book.rest -/
noncomputable def shX0_rest (w_numbers : Nat → Int32) : Option (Int32) :=
  some (w_numbers ((2 : Int32)).toNatClampNeg)
def wdX0_rest (cI cJ cZ : ClassId) (q_this q_numbers q_fresh q_told : Nat) (v_faultKind : Int32) (v_faultPlace : Int32) (v_at : Int32) (v_end : Int32) (w_numbers : Nat → Int32) : va_W := [(q_this, .inr (0, [.ref q_numbers, .ref q_fresh, .ref q_told, .int v_faultKind, .int v_faultPlace, .int v_at, .int v_end])), (q_numbers, .inl (cI, 3, .inl w_numbers))]
abbrev rmX0_rest : Room := { frames := 0, cells := 0, slots := 0, locals := 0 }
theorem inX0_rest_X0 : ∀ w ∈ u_ws RX0 TX0 7, w ∈ wsX0_rest := fun _ h => List.mem_cons_of_mem _ (List.mem_append_right _ h)
theorem lkX0_rest_9 : Cond.fieldLink RX0 9 (TX0 0).1 (TX0 0).2.1 (TX0 0).2.2.1 ∈ wsX0_rest := List.mem_of_getElem? (i := 1) rfl
theorem hdX0_rest : yX0_rest.cls = RX0 ∧ yX0_rest.cls ≠ "java/lang/invoke/MethodHandle" ∧ yX0_rest.cls ≠ "java/lang/invoke/VarHandle" ∧ (parseMethodDescriptor yX0_rest.desc).map (fun d => d.parameters.length) = some 0 := by decide +kernel
set_option maxHeartbeats 4000000 in
set_option maxRecDepth 100000 in
theorem ctX0_rest (l : Launch) (D : va_G) (cI cJ cZ : ClassId) (q_this q_numbers q_fresh q_told : Nat) (v_faultKind : Int32) (v_faultPlace : Int32) (v_at : Int32) (v_end : Int32) (w_numbers : Nat → Int32)  (o : Int32) (hsh : shX0_rest w_numbers = some o) : CtI l yX0_rest wsX0_rest rmX0_rest D (tys3 cI cJ cZ) noE (wdX0_rest cI cJ cZ q_this q_numbers q_fresh q_told v_faultKind v_faultPlace v_at v_end w_numbers) [.ref q_this] o (wdX0_rest cI cJ cZ q_this q_numbers q_fresh q_told v_faultKind v_faultPlace v_at v_end w_numbers) := by
  refine ctI plX0 rfl (Nat.le_of_ble_eq_true rfl) ?_
  intro p e s m below meth c A Q S hK hA hE hret H locs hP hD hS ls hl
  replace S : CallFix p m c cX0_rest 1 s _ wsX0_rest RX0 := S
  generalize ([.ref q_this] : List Value).toArray = args at S hret ⊢
  obtain ⟨hx, hb, hml, hown, hts⟩ := id S
  replace hl : lv_has ls 1 [(0, .ref q_this)] := hl
  unfold shX0_rest at hsh
  refine lv_aload_n hx hb dX0_rest_0 rfl (lv_at hl 0 rfl) ?_
  refine kget (ci := 0) S hK hP rfl inX0_rest_X0 0 rfl 0 (by decide) lkX0_rest_9 rfl dX0_rest_1 ?_
  refine lv_iconst (v := (2 : Int32)) hx hb dX0_rest_4 (by decide) ?_
  refine kial S hK hP 1 0 rfl rfl (vin (by decide)) dX0_rest_5 ?_
  have ho := Option.some.inj hsh
  rw [← ho] at hret
  exact hret _ _ _ _ dX0_rest_6 hP hD hS

/-! DryWells$Book.faultKind -/
noncomputable def shX0_faultKind (v_faultKind : Int32) : Option (Int32) :=
  some v_faultKind
def wdX0_faultKind (cI cJ cZ : ClassId) (q_this q_numbers q_fresh q_told : Nat) (v_faultKind : Int32) (v_faultPlace : Int32) (v_at : Int32) (v_end : Int32) : va_W := [(q_this, .inr (0, [.ref q_numbers, .ref q_fresh, .ref q_told, .int v_faultKind, .int v_faultPlace, .int v_at, .int v_end]))]
abbrev rmX0_faultKind : Room := { frames := 0, cells := 0, slots := 0, locals := 0 }
theorem inX0_faultKind_X0 : ∀ w ∈ u_ws RX0 TX0 7, w ∈ wsX0_faultKind := fun _ h => List.mem_cons_of_mem _ (List.mem_append_right _ h)
theorem lkX0_faultKind_22 : Cond.fieldLink RX0 22 (TX0 3).1 (TX0 3).2.1 (TX0 3).2.2.1 ∈ wsX0_faultKind := List.mem_of_getElem? (i := 1) rfl
theorem hdX0_faultKind : yX0_faultKind.cls = RX0 ∧ yX0_faultKind.cls ≠ "java/lang/invoke/MethodHandle" ∧ yX0_faultKind.cls ≠ "java/lang/invoke/VarHandle" ∧ (parseMethodDescriptor yX0_faultKind.desc).map (fun d => d.parameters.length) = some 0 := by decide +kernel
set_option maxHeartbeats 4000000 in
set_option maxRecDepth 100000 in
theorem ctX0_faultKind (l : Launch) (D : va_G) (cI cJ cZ : ClassId) (q_this q_numbers q_fresh q_told : Nat) (v_faultKind : Int32) (v_faultPlace : Int32) (v_at : Int32) (v_end : Int32)  (o : Int32) (hsh : shX0_faultKind v_faultKind = some o) : CtI l yX0_faultKind wsX0_faultKind rmX0_faultKind D (tys3 cI cJ cZ) noE (wdX0_faultKind cI cJ cZ q_this q_numbers q_fresh q_told v_faultKind v_faultPlace v_at v_end) [.ref q_this] o (wdX0_faultKind cI cJ cZ q_this q_numbers q_fresh q_told v_faultKind v_faultPlace v_at v_end) := by
  refine ctI plX0 rfl (Nat.le_of_ble_eq_true rfl) ?_
  intro p e s m below meth c A Q S hK hA hE hret H locs hP hD hS ls hl
  replace S : CallFix p m c cX0_faultKind 1 s _ wsX0_faultKind RX0 := S
  generalize ([.ref q_this] : List Value).toArray = args at S hret ⊢
  obtain ⟨hx, hb, hml, hown, hts⟩ := id S
  replace hl : lv_has ls 1 [(0, .ref q_this)] := hl
  unfold shX0_faultKind at hsh
  refine lv_aload_n hx hb dX0_faultKind_0 rfl (lv_at hl 0 rfl) ?_
  refine kget (ci := 0) S hK hP rfl inX0_faultKind_X0 0 rfl 3 (by decide) lkX0_faultKind_22 rfl dX0_faultKind_1 ?_
  have ho := Option.some.inj hsh
  rw [← ho] at hret
  exact hret _ _ _ _ dX0_faultKind_4 hP hD hS

/-! DryWells$Book.faultPlace -/
noncomputable def shX0_faultPlace (v_faultPlace : Int32) : Option (Int32) :=
  some v_faultPlace
def wdX0_faultPlace (cI cJ cZ : ClassId) (q_this q_numbers q_fresh q_told : Nat) (v_faultKind : Int32) (v_faultPlace : Int32) (v_at : Int32) (v_end : Int32) : va_W := [(q_this, .inr (0, [.ref q_numbers, .ref q_fresh, .ref q_told, .int v_faultKind, .int v_faultPlace, .int v_at, .int v_end]))]
abbrev rmX0_faultPlace : Room := { frames := 0, cells := 0, slots := 0, locals := 0 }
theorem inX0_faultPlace_X0 : ∀ w ∈ u_ws RX0 TX0 7, w ∈ wsX0_faultPlace := fun _ h => List.mem_cons_of_mem _ (List.mem_append_right _ h)
theorem lkX0_faultPlace_26 : Cond.fieldLink RX0 26 (TX0 4).1 (TX0 4).2.1 (TX0 4).2.2.1 ∈ wsX0_faultPlace := List.mem_of_getElem? (i := 1) rfl
theorem hdX0_faultPlace : yX0_faultPlace.cls = RX0 ∧ yX0_faultPlace.cls ≠ "java/lang/invoke/MethodHandle" ∧ yX0_faultPlace.cls ≠ "java/lang/invoke/VarHandle" ∧ (parseMethodDescriptor yX0_faultPlace.desc).map (fun d => d.parameters.length) = some 0 := by decide +kernel
set_option maxHeartbeats 4000000 in
set_option maxRecDepth 100000 in
theorem ctX0_faultPlace (l : Launch) (D : va_G) (cI cJ cZ : ClassId) (q_this q_numbers q_fresh q_told : Nat) (v_faultKind : Int32) (v_faultPlace : Int32) (v_at : Int32) (v_end : Int32)  (o : Int32) (hsh : shX0_faultPlace v_faultPlace = some o) : CtI l yX0_faultPlace wsX0_faultPlace rmX0_faultPlace D (tys3 cI cJ cZ) noE (wdX0_faultPlace cI cJ cZ q_this q_numbers q_fresh q_told v_faultKind v_faultPlace v_at v_end) [.ref q_this] o (wdX0_faultPlace cI cJ cZ q_this q_numbers q_fresh q_told v_faultKind v_faultPlace v_at v_end) := by
  refine ctI plX0 rfl (Nat.le_of_ble_eq_true rfl) ?_
  intro p e s m below meth c A Q S hK hA hE hret H locs hP hD hS ls hl
  replace S : CallFix p m c cX0_faultPlace 1 s _ wsX0_faultPlace RX0 := S
  generalize ([.ref q_this] : List Value).toArray = args at S hret ⊢
  obtain ⟨hx, hb, hml, hown, hts⟩ := id S
  replace hl : lv_has ls 1 [(0, .ref q_this)] := hl
  unfold shX0_faultPlace at hsh
  refine lv_aload_n hx hb dX0_faultPlace_0 rfl (lv_at hl 0 rfl) ?_
  refine kget (ci := 0) S hK hP rfl inX0_faultPlace_X0 0 rfl 4 (by decide) lkX0_faultPlace_26 rfl dX0_faultPlace_1 ?_
  have ho := Option.some.inj hsh
  rw [← ho] at hret
  exact hret _ _ _ _ dX0_faultPlace_4 hP hD hS

/-! DryWells$Book.begin -/
noncomputable def shX0_begin_j_51 (v_faultKind_j_51 : Int32) (v_faultPlace_j_51 : Int32) (v_at_j_51 : Int32) (v_end_j_51 : Int32) (w_fresh_j_51 : Nat → Int32) (w_told_j_51 : Nat → Int32) : Option (Int32 × Int32 × Int32 × Int32 × (Nat → Int32) × (Nat → Int32)) :=
  some (v_faultKind_j_51, v_faultPlace_j_51, v_at_j_51, v_end_j_51, w_fresh_j_51, w_told_j_51)
noncomputable def shX0_begin_L22 (x2_22 : Int32) (w_fresh_22 : Nat → Int32) (w_told_22 : Nat → Int32) : Option ((Int32 × (Nat → Int32) × (Nat → Int32)) ⊕ (((Nat → Int32) × (Nat → Int32)))) :=
  (if (3 : Int32) ≤ x2_22 then some (Sum.inr (w_fresh_22, w_told_22)) else ((gd x2_22 3).bind fun _ => ((gd x2_22 3).bind fun _ => ((gd x2_22 3).bind fun _ => some (Sum.inl ((x2_22 + (1 : Int32)), (upd w_fresh_22 (x2_22).toNatClampNeg (tb_UNTOLD (x2_22).toNatClampNeg)), (upd w_told_22 (x2_22).toNatClampNeg (vp_nar .boolean (0 : Int32)))))))))
noncomputable def shX0_begin (a1 : Int32) (v_faultKind : Int32) (v_faultPlace : Int32) (v_at : Int32) (v_end : Int32) (w_fresh : Nat → Int32) (w_told : Nat → Int32) : Option (Int32 × Int32 × Int32 × Int32 × (Nat → Int32) × (Nat → Int32)) :=
  ((lp (fun s : Int32 × (Nat → Int32) × (Nat → Int32) => shX0_begin_L22 s.1 s.2.1 s.2.2) ((0 : Int32), w_fresh, w_told)).bind (fun p : (Nat → Int32) × (Nat → Int32) => shX0_begin_j_51 (0 : Int32) (-1 : Int32) (0 : Int32) a1 p.1 p.2))
def wdX0_begin (cI cJ cZ : ClassId) (q_this q_numbers q_fresh q_told : Nat) (v_faultKind : Int32) (v_faultPlace : Int32) (v_at : Int32) (v_end : Int32) (w_fresh : Nat → Int32) (w_told : Nat → Int32) : va_W := [(q_this, .inr (0, [.ref q_numbers, .ref q_fresh, .ref q_told, .int v_faultKind, .int v_faultPlace, .int v_at, .int v_end])), (q_fresh, .inl (cI, 3, .inl w_fresh)), (q_told, .inl (cZ, 3, .inl w_told))]
abbrev rmX0_begin : Room := { frames := 0, cells := 0, slots := 0, locals := 0 }
theorem inX0_begin_X0 : ∀ w ∈ u_ws RX0 TX0 7, w ∈ wsX0_begin := fun _ h => List.mem_cons_of_mem _ (List.mem_append_right _ h)
theorem lkX0_begin_29 : Cond.fieldLink RX0 29 (TX0 5).1 (TX0 5).2.1 (TX0 5).2.2.1 ∈ wsX0_begin := List.mem_of_getElem? (i := 1) rfl
theorem lkX0_begin_32 : Cond.fieldLink RX0 32 (TX0 6).1 (TX0 6).2.1 (TX0 6).2.2.1 ∈ wsX0_begin := List.mem_of_getElem? (i := 2) rfl
theorem lkX0_begin_22 : Cond.fieldLink RX0 22 (TX0 3).1 (TX0 3).2.1 (TX0 3).2.2.1 ∈ wsX0_begin := List.mem_of_getElem? (i := 3) rfl
theorem lkX0_begin_26 : Cond.fieldLink RX0 26 (TX0 4).1 (TX0 4).2.1 (TX0 4).2.2.1 ∈ wsX0_begin := List.mem_of_getElem? (i := 4) rfl
theorem lkX0_begin_15 : Cond.fieldLink RX0 15 (TX0 1).1 (TX0 1).2.1 (TX0 1).2.2.1 ∈ wsX0_begin := List.mem_of_getElem? (i := 5) rfl
theorem lkX0_begin_18 : Cond.fieldLink RX0 18 (TX0 2).1 (TX0 2).2.1 (TX0 2).2.2.1 ∈ wsX0_begin := List.mem_of_getElem? (i := 7) rfl
theorem hdX0_begin : yX0_begin.cls = RX0 ∧ yX0_begin.cls ≠ "java/lang/invoke/MethodHandle" ∧ yX0_begin.cls ≠ "java/lang/invoke/VarHandle" ∧ (parseMethodDescriptor yX0_begin.desc).map (fun d => d.parameters.length) = some 1 := by decide +kernel
set_option maxHeartbeats 4000000 in
set_option maxRecDepth 100000 in
theorem ctX0_begin (l : Launch) (D : va_G) (cI cJ cZ : ClassId) (tL tM tU : Nat) (adK adV : Nat → Nat) (q_this q_numbers q_fresh q_told : Nat) (v_faultKind : Int32) (v_faultPlace : Int32) (v_at : Int32) (v_end : Int32) (w_fresh : Nat → Int32) (w_told : Nat → Int32) (a1 : Int32) (o : Int32 × Int32 × Int32 × Int32 × (Nat → Int32) × (Nat → Int32)) (hsh : shX0_begin a1 v_faultKind v_faultPlace v_at v_end w_fresh w_told = some o) : CtV l yX0_begin wsX0_begin rmX0_begin D (tys3 cI cJ cZ) (En tL tM tU adK adV) (wdX0_begin cI cJ cZ q_this q_numbers q_fresh q_told v_faultKind v_faultPlace v_at v_end w_fresh w_told) [.ref q_this, .int a1]  (wdX0_begin cI cJ cZ q_this q_numbers q_fresh q_told o.1 o.2.1 o.2.2.1 o.2.2.2.1 o.2.2.2.2.1 o.2.2.2.2.2) := by
  refine ctV plX0 rfl (Nat.le_of_ble_eq_true rfl) ?_
  intro p e s m below meth c A Q S hK hA hE hret H locs hP hD hS ls hl
  replace S : CallFix p m c cX0_begin 3 s _ wsX0_begin RX0 := S
  generalize ([.ref q_this, .int a1] : List Value).toArray = args at S hret ⊢
  obtain ⟨hx, hb, hml, hown, hts⟩ := id S
  replace hl : lv_has ls 3 [(0, .ref q_this), (1, .int a1)] := hl
  unfold shX0_begin at hsh
  have Jj_51 : ∀ (v_faultKind_j_51 : Int32) (v_faultPlace_j_51 : Int32) (v_at_j_51 : Int32) (v_end_j_51 : Int32) (w_fresh_j_51 : Nat → Int32) (w_told_j_51 : Nat → Int32) (H : Heap) (locs : List Loc), va_P D vwCl (wdX0_begin cI cJ cZ q_this q_numbers q_fresh q_told v_faultKind_j_51 v_faultPlace_j_51 v_at_j_51 v_end_j_51 w_fresh_j_51 w_told_j_51) H → va_D A (wdX0_begin cI cJ cZ q_this q_numbers q_fresh q_told v_faultKind_j_51 v_faultPlace_j_51 v_at_j_51 v_end_j_51 w_fresh_j_51 w_told_j_51) → va_S A s.heap H locs → ∀ ls : Array Slot, lv_has ls 3 [] → shX0_begin_j_51 v_faultKind_j_51 v_faultPlace_j_51 v_at_j_51 v_end_j_51 w_fresh_j_51 w_told_j_51 = some o → W p l e rmX0_begin s m args below meth c H locs 0 0 Q (F0 m 51 ls []) := by
    intro v_faultKind_j_51 v_faultPlace_j_51 v_at_j_51 v_end_j_51 w_fresh_j_51 w_told_j_51 H locs hP hD hS ls hl hsh
    unfold shX0_begin_j_51 at hsh
    have ho := Option.some.inj hsh
    rw [← ho] at hret
    exact hret _ _ _ _ dX0_begin_51 hP hD hS
  refine lv_aload_n hx hb dX0_begin_0 rfl (lv_at hl 0 rfl) ?_
  refine lv_iconst (v := (0 : Int32)) hx hb dX0_begin_1 (by decide) ?_
  refine kput (ci := 0) S hK hP hD hS rfl inX0_begin_X0 tyX0_ok nmX0 0 rfl 5 (by decide) lkX0_begin_29 rfl rfl rfl (Nat.le_of_ble_eq_true rfl) (ws' := (wdX0_begin cI cJ cZ q_this q_numbers q_fresh q_told v_faultKind v_faultPlace (0 : Int32) v_end w_fresh w_told)) rfl dX0_begin_2 (fun H locs hP hD hS => ?_)
  refine lv_aload_n hx hb dX0_begin_5 rfl (lv_at hl 0 rfl) ?_
  refine lv_iload_n hx hb dX0_begin_6 rfl (lv_at hl 1 rfl) ?_
  refine kput (ci := 0) S hK hP hD hS rfl inX0_begin_X0 tyX0_ok nmX0 0 rfl 6 (by decide) lkX0_begin_32 rfl rfl rfl (Nat.le_of_ble_eq_true rfl) (ws' := (wdX0_begin cI cJ cZ q_this q_numbers q_fresh q_told v_faultKind v_faultPlace (0 : Int32) a1 w_fresh w_told)) rfl dX0_begin_7 (fun H locs hP hD hS => ?_)
  refine lv_aload_n hx hb dX0_begin_10 rfl (lv_at hl 0 rfl) ?_
  refine lv_iconst (v := (0 : Int32)) hx hb dX0_begin_11 (by decide) ?_
  refine kput (ci := 0) S hK hP hD hS rfl inX0_begin_X0 tyX0_ok nmX0 0 rfl 3 (by decide) lkX0_begin_22 rfl rfl rfl (Nat.le_of_ble_eq_true rfl) (ws' := (wdX0_begin cI cJ cZ q_this q_numbers q_fresh q_told (0 : Int32) v_faultPlace (0 : Int32) a1 w_fresh w_told)) rfl dX0_begin_12 (fun H locs hP hD hS => ?_)
  refine lv_aload_n hx hb dX0_begin_15 rfl (lv_at hl 0 rfl) ?_
  refine lv_iconst (v := (-1 : Int32)) hx hb dX0_begin_16 (by decide) ?_
  refine kput (ci := 0) S hK hP hD hS rfl inX0_begin_X0 tyX0_ok nmX0 0 rfl 4 (by decide) lkX0_begin_26 rfl rfl rfl (Nat.le_of_ble_eq_true rfl) (ws' := (wdX0_begin cI cJ cZ q_this q_numbers q_fresh q_told (0 : Int32) (-1 : Int32) (0 : Int32) a1 w_fresh w_told)) rfl dX0_begin_17 (fun H locs hP hD hS => ?_)
  refine lv_iconst (v := (0 : Int32)) hx hb dX0_begin_20 (by decide) ?_
  refine lv_istore_n (lv' := [(2, .int (0 : Int32)), (0, .ref q_this), (1, .int a1)]) hx hb dX0_begin_21 rfl hl (by decide) rfl (fun ls hl => ?_)
  obtain ⟨r_22, hl_22, hk_22⟩ := bd hsh
  obtain ⟨n_22, hn_22⟩ := lp_iff.mp hl_22
  have L_22 : ∀ (n : Nat) (x2_22 : Int32) (w_fresh_22 : Nat → Int32) (w_told_22 : Nat → Int32) (H : Heap) (locs : List Loc), va_P D vwCl (wdX0_begin cI cJ cZ q_this q_numbers q_fresh q_told (0 : Int32) (-1 : Int32) (0 : Int32) a1 w_fresh_22 w_told_22) H → va_D A (wdX0_begin cI cJ cZ q_this q_numbers q_fresh q_told (0 : Int32) (-1 : Int32) (0 : Int32) a1 w_fresh_22 w_told_22) → va_S A s.heap H locs → ∀ ls : Array Slot, lv_has ls 3 [(0, .ref q_this), (2, .int x2_22)] → it (fun s : Int32 × (Nat → Int32) × (Nat → Int32) => shX0_begin_L22 s.1 s.2.1 s.2.2) n (x2_22, w_fresh_22, w_told_22) = some r_22 → W p l e rmX0_begin s m args below meth c H locs 0 0 Q (F0 m 22 ls []) := by
    intro n
    induction n with
    | zero => exact fun _ _ _ _ _ _ _ _ _ _ hi => it_0 hi
    | succ n ih_22 =>
      intro x2_22 w_fresh_22 w_told_22 H locs hP hD hS ls hl hi
      obtain ⟨b_22, hsh, hB1_22, hB2_22⟩ := it_b hi
      replace hsh : shX0_begin_L22 x2_22 w_fresh_22 w_told_22 = some b_22 := hsh
      unfold shX0_begin_L22 at hsh
      refine lv_iload_n hx hb dX0_begin_22 rfl (lv_at hl 1 rfl) ?_
      refine lv_iconst (v := (3 : Int32)) hx hb dX0_begin_23 (by decide) ?_
      refine lv_icmp_ge (tgt := 51) hx hb dX0_begin_24 (by decide) (fun c1 => ?_) (fun c1 => ?_)
      · skip
        have hsh := ite_t hsh c1
        have he := hB2_22 _ hsh
        rw [← he] at hk_22
        exact Jj_51 (0 : Int32) (-1 : Int32) (0 : Int32) a1 w_fresh_22 w_told_22 H locs hP hD hS ls (lv_sub hl [] rfl) hk_22
      · skip
        have hsh := ite_f hsh c1
        refine lv_aload_n hx hb dX0_begin_27 rfl (lv_at hl 0 rfl) ?_
        refine kget (ci := 0) S hK hP rfl inX0_begin_X0 0 rfl 1 (by decide) lkX0_begin_15 rfl dX0_begin_28 ?_
        refine lv_iload_n hx hb dX0_begin_31 rfl (lv_at hl 1 rfl) ?_
        refine va_gets hx hb hE.2.2.1.1 hS hown (hts _ (List.mem_of_getElem? (i := 6) rfl)) (fun _ h => h) dX0_begin_32 ?_
        refine lv_iload_n hx hb dX0_begin_35 rfl (lv_at hl 1 rfl) ?_
        obtain ⟨_, hg, hsh⟩ := bd hsh
        refine va_ti hx hb hE.2.2.1.2 hS (gd_in hg) rfl dX0_begin_36 ?_
        obtain ⟨_, hg, hsh⟩ := bd hsh
        refine kias S hK hP hD hS 1 0 rfl rfl (gd_in hg) (ws' := (wdX0_begin cI cJ cZ q_this q_numbers q_fresh q_told (0 : Int32) (-1 : Int32) (0 : Int32) a1 (upd w_fresh_22 (x2_22).toNatClampNeg (tb_UNTOLD (x2_22).toNatClampNeg)) w_told_22)) rfl dX0_begin_37 (fun H locs hP hD hS => ?_)
        refine lv_aload_n hx hb dX0_begin_38 rfl (lv_at hl 0 rfl) ?_
        refine kget (ci := 0) S hK hP rfl inX0_begin_X0 0 rfl 2 (by decide) lkX0_begin_18 rfl dX0_begin_39 ?_
        refine lv_iload_n hx hb dX0_begin_42 rfl (lv_at hl 1 rfl) ?_
        refine lv_iconst (v := (0 : Int32)) hx hb dX0_begin_43 (by decide) ?_
        obtain ⟨_, hg, hsh⟩ := bd hsh
        refine kzas S hK hP hD hS 2 2 rfl rfl (gd_in hg) (ws' := (wdX0_begin cI cJ cZ q_this q_numbers q_fresh q_told (0 : Int32) (-1 : Int32) (0 : Int32) a1 (upd w_fresh_22 (x2_22).toNatClampNeg (tb_UNTOLD (x2_22).toNatClampNeg)) (upd w_told_22 (x2_22).toNatClampNeg (vp_nar .boolean (0 : Int32))))) rfl dX0_begin_44 (fun H locs hP hD hS => ?_)
        refine lv_iinc (v := (x2_22 + (1 : Int32))) (lv' := [(2, .int (x2_22 + (1 : Int32))), (0, .ref q_this)]) hx hb dX0_begin_45 hl (k := 1) rfl (congrArg (fun z : Int32 => x2_22 + z) (by decide)) (by decide) rfl (fun ls hl => ?_)
        refine lv_goto (tgt := 22) hx hb dX0_begin_48 (by decide) ?_
        exact ih_22 (x2_22 + (1 : Int32)) (upd w_fresh_22 (x2_22).toNatClampNeg (tb_UNTOLD (x2_22).toNatClampNeg)) (upd w_told_22 (x2_22).toNatClampNeg (vp_nar .boolean (0 : Int32))) H locs hP hD hS ls (lv_sub hl [1, 0] rfl) (hB1_22 _ hsh)
  exact L_22 n_22 (0 : Int32) w_fresh w_told H locs hP hD hS ls (lv_sub hl [1, 0] rfl) hn_22

/-! DryWells$Book.isBlank -/
noncomputable def shX0_isBlank (a0 : Int32) : Option (Int32) :=
  (if a0 = (10 : Int32) then some (1 : Int32) else (if ¬ a0 = (32 : Int32) then some (0 : Int32) else some (1 : Int32)))
def wdX0_isBlank (cI cJ cZ : ClassId)   : va_W := []
abbrev rmX0_isBlank : Room := { frames := 0, cells := 0, slots := 0, locals := 0 }
theorem hdX0_isBlank : yX0_isBlank.cls ≠ "java/lang/invoke/MethodHandle" ∧ yX0_isBlank.cls ≠ "java/lang/invoke/VarHandle" ∧ (parseMethodDescriptor yX0_isBlank.desc).map (fun d => d.parameters.length) = some 1 := by decide +kernel
set_option maxHeartbeats 4000000 in
set_option maxRecDepth 100000 in
theorem ctX0_isBlank (l : Launch) (D : va_G) (cI cJ cZ : ClassId)  (a0 : Int32) (o : Int32) (hsh : shX0_isBlank a0 = some o) : CtI l yX0_isBlank wsX0_isBlank rmX0_isBlank D (tys3 cI cJ cZ) noE (wdX0_isBlank cI cJ cZ ) [.int a0] o (wdX0_isBlank cI cJ cZ ) := by
  refine ctZ plX0 rfl (Nat.le_of_ble_eq_true rfl) ?_
  intro p e s m below meth c A Q S hK hA hE hret H locs hP hD hS ls hl
  replace S : CallFix p m c cX0_isBlank 1 s _ wsX0_isBlank RX0 := S
  generalize ([.int a0] : List Value).toArray = args at S hret ⊢
  obtain ⟨hx, hb, hml, hown, hts⟩ := id S
  replace hl : lv_has ls 1 [(0, .int a0)] := hl
  unfold shX0_isBlank at hsh
  refine lv_iload_n hx hb dX0_isBlank_0 rfl (lv_at hl 0 rfl) ?_
  refine lv_bipush (v := (10 : Int32)) hx hb dX0_isBlank_1 (by decide) ?_
  refine lv_icmp_eq (tgt := 12) hx hb dX0_isBlank_3 (by decide) (fun c1 => ?_) (fun c1 => ?_)
  · skip
    have hsh := ite_t hsh c1
    refine lv_iconst (v := (1 : Int32)) hx hb dX0_isBlank_12 (by decide) ?_
    refine lv_goto (tgt := 17) hx hb dX0_isBlank_13 (by decide) ?_
    have ho := Option.some.inj hsh
    rw [← ho] at hret
    exact hret _ _ _ _ nar1 dX0_isBlank_17 hP hD hS
  · skip
    have hsh := ite_f hsh c1
    refine lv_iload_n hx hb dX0_isBlank_6 rfl (lv_at hl 0 rfl) ?_
    refine lv_bipush (v := (32 : Int32)) hx hb dX0_isBlank_7 (by decide) ?_
    refine lv_icmp_ne (tgt := 16) hx hb dX0_isBlank_9 (by decide) (fun c1 => ?_) (fun c1 => ?_)
    · skip
      have hsh := ite_t hsh c1
      refine lv_iconst (v := (0 : Int32)) hx hb dX0_isBlank_16 (by decide) ?_
      have ho := Option.some.inj hsh
      rw [← ho] at hret
      exact hret _ _ _ _ nar0 dX0_isBlank_17 hP hD hS
    · skip
      have hsh := ite_f hsh (fun h => h c1)
      refine lv_iconst (v := (1 : Int32)) hx hb dX0_isBlank_12 (by decide) ?_
      refine lv_goto (tgt := 17) hx hb dX0_isBlank_13 (by decide) ?_
      have ho := Option.some.inj hsh
      rw [← ho] at hret
      exact hret _ _ _ _ nar1 dX0_isBlank_17 hP hD hS

/-! DryWells$Book.skipBlanks -/
noncomputable def shX0_skipBlanks_j_38 (v_at_j_38 : Int32) : Option (Int32) :=
  some v_at_j_38
noncomputable def shX0_skipBlanks_L0 (v_end : Int32) (v_p1_length : Int32) (w_p1_bytes : Nat → Int32) (v_at_0 : Int32) : Option ((Int32) ⊕ ((Int32))) :=
  (if v_end ≤ v_at_0 then some (Sum.inr v_at_0) else ((shX3_at v_at_0 v_p1_length w_p1_bytes).bind fun o_16 => ((shX0_isBlank o_16).bind fun o_19 => (if o_19 = 0 then some (Sum.inr v_at_0) else some (Sum.inl (v_at_0 + (1 : Int32)))))))
noncomputable def shX0_skipBlanks (v_at : Int32) (v_end : Int32) (v_p1_length : Int32) (w_p1_bytes : Nat → Int32) : Option (Int32) :=
  ((lp (fun s : Int32 => shX0_skipBlanks_L0 v_end v_p1_length w_p1_bytes s) v_at).bind (fun p : Int32 => shX0_skipBlanks_j_38 p))
def wdX0_skipBlanks (cI cJ cZ : ClassId) (q_this q_p1 q_numbers q_fresh q_told q_p1_bytes : Nat) (v_faultKind : Int32) (v_faultPlace : Int32) (v_at : Int32) (v_end : Int32) (v_p1_length : Int32) (w_p1_bytes : Nat → Int32) : va_W := [(q_this, .inr (0, [.ref q_numbers, .ref q_fresh, .ref q_told, .int v_faultKind, .int v_faultPlace, .int v_at, .int v_end])), (q_p1, .inr (3, [.ref q_p1_bytes, .int v_p1_length])), (q_p1_bytes, .inl (cI, 200, .inl w_p1_bytes))]
abbrev rmX0_skipBlanks : Room := { frames := 1, cells := 0, slots := 0, locals := 21 }
theorem inX0_skipBlanks_X0 : ∀ w ∈ u_ws RX0 TX0 7, w ∈ wsX0_skipBlanks := fun _ h => List.mem_cons_of_mem _ (List.mem_append_left _ (List.mem_append_right _ h))
theorem inX0_skipBlanks_X3 : ∀ w ∈ u_ws RX3 TX3 2, w ∈ wsX0_skipBlanks := fun _ h => List.mem_cons_of_mem _ (List.mem_append_right _ h)
theorem lkX0_skipBlanks_29 : Cond.fieldLink RX0 29 (TX0 5).1 (TX0 5).2.1 (TX0 5).2.2.1 ∈ wsX0_skipBlanks := List.mem_of_getElem? (i := 1) rfl
theorem lkX0_skipBlanks_32 : Cond.fieldLink RX0 32 (TX0 6).1 (TX0 6).2.1 (TX0 6).2.2.1 ∈ wsX0_skipBlanks := List.mem_of_getElem? (i := 2) rfl
theorem hdX0_skipBlanks : yX0_skipBlanks.cls = RX0 ∧ yX0_skipBlanks.cls ≠ "java/lang/invoke/MethodHandle" ∧ yX0_skipBlanks.cls ≠ "java/lang/invoke/VarHandle" ∧ (parseMethodDescriptor yX0_skipBlanks.desc).map (fun d => d.parameters.length) = some 1 := by decide +kernel
set_option maxHeartbeats 4000000 in
set_option maxRecDepth 100000 in
theorem ctX0_skipBlanks (l : Launch) (D : va_G) (cI cJ cZ : ClassId) (q_this q_p1 q_numbers q_fresh q_told q_p1_bytes : Nat) (v_faultKind : Int32) (v_faultPlace : Int32) (v_at : Int32) (v_end : Int32) (v_p1_length : Int32) (w_p1_bytes : Nat → Int32)  (o : Int32) (hsh : shX0_skipBlanks v_at v_end v_p1_length w_p1_bytes = some o) : CtV l yX0_skipBlanks wsX0_skipBlanks rmX0_skipBlanks D (tys3 cI cJ cZ) noE (wdX0_skipBlanks cI cJ cZ q_this q_p1 q_numbers q_fresh q_told q_p1_bytes v_faultKind v_faultPlace v_at v_end v_p1_length w_p1_bytes) [.ref q_this, .ref q_p1]  (wdX0_skipBlanks cI cJ cZ q_this q_p1 q_numbers q_fresh q_told q_p1_bytes v_faultKind v_faultPlace o v_end v_p1_length w_p1_bytes) := by
  refine ctV plX0 rfl (Nat.le_of_ble_eq_true rfl) ?_
  intro p e s m below meth c A Q S hK hA hE hret H locs hP hD hS ls hl
  replace S : CallFix p m c cX0_skipBlanks 2 s _ wsX0_skipBlanks RX0 := S
  generalize ([.ref q_this, .ref q_p1] : List Value).toArray = args at S hret ⊢
  obtain ⟨hx, hb, hml, hown, hts⟩ := id S
  replace hl : lv_has ls 2 [(0, .ref q_this), (1, .ref q_p1)] := hl
  unfold shX0_skipBlanks at hsh
  have Jj_38 : ∀ (v_at_j_38 : Int32) (H : Heap) (locs : List Loc), va_P D vwCl (wdX0_skipBlanks cI cJ cZ q_this q_p1 q_numbers q_fresh q_told q_p1_bytes v_faultKind v_faultPlace v_at_j_38 v_end v_p1_length w_p1_bytes) H → va_D A (wdX0_skipBlanks cI cJ cZ q_this q_p1 q_numbers q_fresh q_told q_p1_bytes v_faultKind v_faultPlace v_at_j_38 v_end v_p1_length w_p1_bytes) → va_S A s.heap H locs → ∀ ls : Array Slot, lv_has ls 2 [] → shX0_skipBlanks_j_38 v_at_j_38 = some o → W p l e rmX0_skipBlanks s m args below meth c H locs 0 0 Q (F0 m 38 ls []) := by
    intro v_at_j_38 H locs hP hD hS ls hl hsh
    unfold shX0_skipBlanks_j_38 at hsh
    have ho := Option.some.inj hsh
    rw [← ho] at hret
    exact hret _ _ _ _ dX0_skipBlanks_38 hP hD hS
  obtain ⟨r_0, hl_0, hk_0⟩ := bd hsh
  obtain ⟨n_0, hn_0⟩ := lp_iff.mp hl_0
  have L_0 : ∀ (n : Nat) (v_at_0 : Int32) (H : Heap) (locs : List Loc), va_P D vwCl (wdX0_skipBlanks cI cJ cZ q_this q_p1 q_numbers q_fresh q_told q_p1_bytes v_faultKind v_faultPlace v_at_0 v_end v_p1_length w_p1_bytes) H → va_D A (wdX0_skipBlanks cI cJ cZ q_this q_p1 q_numbers q_fresh q_told q_p1_bytes v_faultKind v_faultPlace v_at_0 v_end v_p1_length w_p1_bytes) → va_S A s.heap H locs → ∀ ls : Array Slot, lv_has ls 2 [(0, .ref q_this), (1, .ref q_p1)] → it (fun s : Int32 => shX0_skipBlanks_L0 v_end v_p1_length w_p1_bytes s) n v_at_0 = some r_0 → W p l e rmX0_skipBlanks s m args below meth c H locs 0 0 Q (F0 m 0 ls []) := by
    intro n
    induction n with
    | zero => exact fun _ _ _ _ _ _ _ _ hi => it_0 hi
    | succ n ih_0 =>
      intro v_at_0 H locs hP hD hS ls hl hi
      obtain ⟨b_0, hsh, hB1_0, hB2_0⟩ := it_b hi
      replace hsh : shX0_skipBlanks_L0 v_end v_p1_length w_p1_bytes v_at_0 = some b_0 := hsh
      unfold shX0_skipBlanks_L0 at hsh
      refine lv_aload_n hx hb dX0_skipBlanks_0 rfl (lv_at hl 0 rfl) ?_
      refine kget (ci := 0) S hK hP rfl inX0_skipBlanks_X0 0 rfl 5 (by decide) lkX0_skipBlanks_29 rfl dX0_skipBlanks_1 ?_
      refine lv_aload_n hx hb dX0_skipBlanks_4 rfl (lv_at hl 0 rfl) ?_
      refine kget (ci := 0) S hK hP rfl inX0_skipBlanks_X0 0 rfl 6 (by decide) lkX0_skipBlanks_32 rfl dX0_skipBlanks_5 ?_
      refine lv_icmp_ge (tgt := 38) hx hb dX0_skipBlanks_8 (by decide) (fun c1 => ?_) (fun c1 => ?_)
      · skip
        have hsh := ite_t hsh c1
        have he := hB2_0 _ hsh
        rw [← he] at hk_0
        exact Jj_38 v_at_0 H locs hP hD hS ls (lv_sub hl [] rfl) hk_0
      · skip
        have hsh := ite_f hsh c1
        refine lv_aload_n hx hb dX0_skipBlanks_11 rfl (lv_at hl 1 rfl) ?_
        refine lv_aload_n hx hb dX0_skipBlanks_12 rfl (lv_at hl 0 rfl) ?_
        refine kget (ci := 0) S hK hP rfl inX0_skipBlanks_X0 0 rfl 5 (by decide) lkX0_skipBlanks_29 rfl dX0_skipBlanks_13 ?_
        obtain ⟨o_16, he, hsh⟩ := bd hsh
        refine kVi (ci := 3) S hK hA (ctX3_at l D cI cJ cZ q_p1 q_p1_bytes v_p1_length w_p1_bytes v_at_0 o_16 he) noE_cl (cwV 1 hts gX0_skipBlanks_X3_at rfl rfl rfl hdX3_at ⟨Nat.le_of_ble_eq_true rfl, Nat.le_of_ble_eq_true rfl⟩) rfl 0 rfl [1, 2] [0] [0, 1, 2] (ws' := (wdX0_skipBlanks cI cJ cZ q_this q_p1 q_numbers q_fresh q_told q_p1_bytes v_faultKind v_faultPlace v_at_0 v_end v_p1_length w_p1_bytes)) ⟨rfl, rfl, rfl, rfl, rfl, rfl, rfl⟩ trivial rfl hl.1 rfl (Nat.le_of_ble_eq_true rfl) dX0_skipBlanks_16 hP hD hS (fun H locs hP hD hS => ?_)
        obtain ⟨o_19, he, hsh⟩ := bd hsh
        refine kSi S hK hA (ctX0_isBlank l D cI cJ cZ o_16 o_19 he) noE_cl (va_cwS 1 hts gX0_skipBlanks_X0_isBlank rfl rfl rfl hdX0_isBlank ⟨Nat.le_of_ble_eq_true rfl, Nat.le_of_ble_eq_true rfl⟩) [] [0, 1, 2] [0, 1, 2] (ws' := (wdX0_skipBlanks cI cJ cZ q_this q_p1 q_numbers q_fresh q_told q_p1_bytes v_faultKind v_faultPlace v_at_0 v_end v_p1_length w_p1_bytes)) ⟨rfl, rfl, rfl, rfl, rfl, rfl, rfl⟩ trivial rfl hl.1 rfl (Nat.le_of_ble_eq_true rfl) dX0_skipBlanks_19 hP hD hS (fun H locs hP hD hS => ?_)
        refine lv_if_eq (tgt := 38) hx hb dX0_skipBlanks_22 (by decide) (fun c1 => ?_) (fun c1 => ?_)
        · skip
          have hsh := ite_t hsh c1
          have he := hB2_0 _ hsh
          rw [← he] at hk_0
          exact Jj_38 v_at_0 H locs hP hD hS ls (lv_sub hl [] rfl) hk_0
        · skip
          have hsh := ite_f hsh c1
          refine lv_aload_n hx hb dX0_skipBlanks_25 rfl (lv_at hl 0 rfl) ?_
          refine lv_dup hx hb dX0_skipBlanks_26 rfl ?_
          refine kget (ci := 0) S hK hP rfl inX0_skipBlanks_X0 0 rfl 5 (by decide) lkX0_skipBlanks_29 rfl dX0_skipBlanks_27 ?_
          refine lv_iconst (v := (1 : Int32)) hx hb dX0_skipBlanks_30 (by decide) ?_
          refine lv_iadd hx hb dX0_skipBlanks_31 ?_
          refine kput (ci := 0) S hK hP hD hS rfl inX0_skipBlanks_X0 tyX0_ok nmX0 0 rfl 5 (by decide) lkX0_skipBlanks_29 rfl rfl rfl (Nat.le_of_ble_eq_true rfl) (ws' := (wdX0_skipBlanks cI cJ cZ q_this q_p1 q_numbers q_fresh q_told q_p1_bytes v_faultKind v_faultPlace (v_at_0 + (1 : Int32)) v_end v_p1_length w_p1_bytes)) rfl dX0_skipBlanks_32 (fun H locs hP hD hS => ?_)
          refine lv_goto (tgt := 0) hx hb dX0_skipBlanks_35 (by decide) ?_
          exact ih_0 (v_at_0 + (1 : Int32)) H locs hP hD hS ls (lv_sub hl [0, 1] rfl) (hB1_0 _ hsh)
  exact L_0 n_0 v_at H locs hP hD hS ls (lv_sub hl [0, 1] rfl) hn_0

/-! DryWells$Book.isLetter -/
noncomputable def shX0_isLetter (a0 : Int32) : Option (Int32) :=
  (if a0 < (97 : Int32) then some (0 : Int32) else (if (122 : Int32) < a0 then some (0 : Int32) else some (1 : Int32)))
def wdX0_isLetter (cI cJ cZ : ClassId)   : va_W := []
abbrev rmX0_isLetter : Room := { frames := 0, cells := 0, slots := 0, locals := 0 }
theorem hdX0_isLetter : yX0_isLetter.cls ≠ "java/lang/invoke/MethodHandle" ∧ yX0_isLetter.cls ≠ "java/lang/invoke/VarHandle" ∧ (parseMethodDescriptor yX0_isLetter.desc).map (fun d => d.parameters.length) = some 1 := by decide +kernel
set_option maxHeartbeats 4000000 in
set_option maxRecDepth 100000 in
theorem ctX0_isLetter (l : Launch) (D : va_G) (cI cJ cZ : ClassId)  (a0 : Int32) (o : Int32) (hsh : shX0_isLetter a0 = some o) : CtI l yX0_isLetter wsX0_isLetter rmX0_isLetter D (tys3 cI cJ cZ) noE (wdX0_isLetter cI cJ cZ ) [.int a0] o (wdX0_isLetter cI cJ cZ ) := by
  refine ctZ plX0 rfl (Nat.le_of_ble_eq_true rfl) ?_
  intro p e s m below meth c A Q S hK hA hE hret H locs hP hD hS ls hl
  replace S : CallFix p m c cX0_isLetter 1 s _ wsX0_isLetter RX0 := S
  generalize ([.int a0] : List Value).toArray = args at S hret ⊢
  obtain ⟨hx, hb, hml, hown, hts⟩ := id S
  replace hl : lv_has ls 1 [(0, .int a0)] := hl
  unfold shX0_isLetter at hsh
  refine lv_iload_n hx hb dX0_isLetter_0 rfl (lv_at hl 0 rfl) ?_
  refine lv_bipush (v := (97 : Int32)) hx hb dX0_isLetter_1 (by decide) ?_
  refine lv_icmp_lt (tgt := 16) hx hb dX0_isLetter_3 (by decide) (fun c1 => ?_) (fun c1 => ?_)
  · skip
    have hsh := ite_t hsh c1
    refine lv_iconst (v := (0 : Int32)) hx hb dX0_isLetter_16 (by decide) ?_
    have ho := Option.some.inj hsh
    rw [← ho] at hret
    exact hret _ _ _ _ nar0 dX0_isLetter_17 hP hD hS
  · skip
    have hsh := ite_f hsh c1
    refine lv_iload_n hx hb dX0_isLetter_6 rfl (lv_at hl 0 rfl) ?_
    refine lv_bipush (v := (122 : Int32)) hx hb dX0_isLetter_7 (by decide) ?_
    refine lv_icmp_gt (tgt := 16) hx hb dX0_isLetter_9 (by decide) (fun c1 => ?_) (fun c1 => ?_)
    · skip
      have hsh := ite_t hsh c1
      refine lv_iconst (v := (0 : Int32)) hx hb dX0_isLetter_16 (by decide) ?_
      have ho := Option.some.inj hsh
      rw [← ho] at hret
      exact hret _ _ _ _ nar0 dX0_isLetter_17 hP hD hS
    · skip
      have hsh := ite_f hsh c1
      refine lv_iconst (v := (1 : Int32)) hx hb dX0_isLetter_12 (by decide) ?_
      refine lv_goto (tgt := 17) hx hb dX0_isLetter_13 (by decide) ?_
      have ho := Option.some.inj hsh
      rw [← ho] at hret
      exact hret _ _ _ _ nar1 dX0_isLetter_17 hP hD hS

/-! DryWells$Book.isWord -/
noncomputable def shX0_isWord_j_44  : Option (Int32) :=
  some (0 : Int32)
noncomputable def shX0_isWord_j_52  : Option (Int32) :=
  some (1 : Int32)
noncomputable def shX0_isWord_L18 (a2 : Int32) (n3 : Nat) (v_p1_length : Int32) (w_p1_bytes : Nat → Int32) (x4_18 : Int32) : Option ((Int32) ⊕ ((Unit) ⊕ (Unit))) :=
  (if (nI (sN n3)) ≤ x4_18 then some (Sum.inr (Sum.inr ())) else ((shX3_at (a2 + x4_18) v_p1_length w_p1_bytes).bind fun o_32 => ((gd x4_18 (sN n3)).bind fun _ => (if o_32 = (sC n3 (x4_18).toNatClampNeg) then some (Sum.inl (x4_18 + (1 : Int32))) else some (Sum.inr (Sum.inl ()))))))
noncomputable def shX0_isWord (a2 : Int32) (n3 : Nat) (v_at : Int32) (v_p1_length : Int32) (w_p1_bytes : Nat → Int32) : Option (Int32) :=
  (if (v_at - a2) = (nI (sN n3)) then ((lp (fun s : Int32 => shX0_isWord_L18 a2 n3 v_p1_length w_p1_bytes s) (0 : Int32)).bind (Sum.elim (fun p : Unit => shX0_isWord_j_44) (fun p : Unit => shX0_isWord_j_52))) else some (0 : Int32))
def wdX0_isWord (cI cJ cZ : ClassId) (q_this q_p1 q_numbers q_fresh q_told q_p1_bytes : Nat) (v_faultKind : Int32) (v_faultPlace : Int32) (v_at : Int32) (v_end : Int32) (v_p1_length : Int32) (w_p1_bytes : Nat → Int32) : va_W := [(q_this, .inr (0, [.ref q_numbers, .ref q_fresh, .ref q_told, .int v_faultKind, .int v_faultPlace, .int v_at, .int v_end])), (q_p1, .inr (3, [.ref q_p1_bytes, .int v_p1_length])), (q_p1_bytes, .inl (cI, 200, .inl w_p1_bytes))]
abbrev rmX0_isWord : Room := { frames := 4, cells := 0, slots := 0, locals := 85 }
theorem inX0_isWord_X0 : ∀ w ∈ u_ws RX0 TX0 7, w ∈ wsX0_isWord := fun _ h => List.mem_cons_of_mem _ (List.mem_append_left _ (List.mem_append_right _ h))
theorem inX0_isWord_X3 : ∀ w ∈ u_ws RX3 TX3 2, w ∈ wsX0_isWord := fun _ h => List.mem_cons_of_mem _ (List.mem_append_right _ h)
theorem lkX0_isWord_29 : Cond.fieldLink RX0 29 (TX0 5).1 (TX0 5).2.1 (TX0 5).2.2.1 ∈ wsX0_isWord := List.mem_of_getElem? (i := 1) rfl
theorem hdX0_isWord : yX0_isWord.cls = RX0 ∧ yX0_isWord.cls ≠ "java/lang/invoke/MethodHandle" ∧ yX0_isWord.cls ≠ "java/lang/invoke/VarHandle" ∧ (parseMethodDescriptor yX0_isWord.desc).map (fun d => d.parameters.length) = some 3 := by decide +kernel
set_option maxHeartbeats 4000000 in
set_option maxRecDepth 100000 in
theorem ctX0_isWord (l : Launch) (D : va_G) (cI cJ cZ : ClassId) (tL tM tU : Nat) (adK adV : Nat → Nat) (n3 : Nat) (hn3 : n3 < 3) (q_this q_p1 q_numbers q_fresh q_told q_p1_bytes : Nat) (v_faultKind : Int32) (v_faultPlace : Int32) (v_at : Int32) (v_end : Int32) (v_p1_length : Int32) (w_p1_bytes : Nat → Int32) (a2 : Int32) (o : Int32) (hsh : shX0_isWord a2 n3 v_at v_p1_length w_p1_bytes = some o) : CtI l yX0_isWord wsX0_isWord rmX0_isWord D (tys3 cI cJ cZ) (En tL tM tU adK adV) (wdX0_isWord cI cJ cZ q_this q_p1 q_numbers q_fresh q_told q_p1_bytes v_faultKind v_faultPlace v_at v_end v_p1_length w_p1_bytes) [.ref q_this, .ref q_p1, .int a2, .ref (adK n3)] o (wdX0_isWord cI cJ cZ q_this q_p1 q_numbers q_fresh q_told q_p1_bytes v_faultKind v_faultPlace v_at v_end v_p1_length w_p1_bytes) := by
  refine ctZ plX0 rfl (Nat.le_of_ble_eq_true rfl) ?_
  intro p e s m below meth c A Q S hK hA hE hret H locs hP hD hS ls hl
  replace S : CallFix p m c cX0_isWord 5 s _ wsX0_isWord RX0 := S
  generalize ([.ref q_this, .ref q_p1, .int a2, .ref (adK n3)] : List Value).toArray = args at S hret ⊢
  obtain ⟨hx, hb, hml, hown, hts⟩ := id S
  replace hl : lv_has ls 5 [(0, .ref q_this), (1, .ref q_p1), (2, .int a2), (3, .ref (adK n3))] := hl
  unfold shX0_isWord at hsh
  have Jj_44 : ∀ (H : Heap) (locs : List Loc), va_P D vwCl (wdX0_isWord cI cJ cZ q_this q_p1 q_numbers q_fresh q_told q_p1_bytes v_faultKind v_faultPlace v_at v_end v_p1_length w_p1_bytes) H → va_D A (wdX0_isWord cI cJ cZ q_this q_p1 q_numbers q_fresh q_told q_p1_bytes v_faultKind v_faultPlace v_at v_end v_p1_length w_p1_bytes) → va_S A s.heap H locs → ∀ ls : Array Slot, lv_has ls 5 [] → shX0_isWord_j_44 = some o → W p l e rmX0_isWord s m args below meth c H locs 0 0 Q (F0 m 44 ls []) := by
    intro  H locs hP hD hS ls hl hsh
    unfold shX0_isWord_j_44 at hsh
    refine lv_iconst (v := (0 : Int32)) hx hb dX0_isWord_44 (by decide) ?_
    have ho := Option.some.inj hsh
    rw [← ho] at hret
    exact hret _ _ _ _ nar0 dX0_isWord_45 hP hD hS
  have Jj_52 : ∀ (H : Heap) (locs : List Loc), va_P D vwCl (wdX0_isWord cI cJ cZ q_this q_p1 q_numbers q_fresh q_told q_p1_bytes v_faultKind v_faultPlace v_at v_end v_p1_length w_p1_bytes) H → va_D A (wdX0_isWord cI cJ cZ q_this q_p1 q_numbers q_fresh q_told q_p1_bytes v_faultKind v_faultPlace v_at v_end v_p1_length w_p1_bytes) → va_S A s.heap H locs → ∀ ls : Array Slot, lv_has ls 5 [] → shX0_isWord_j_52 = some o → W p l e rmX0_isWord s m args below meth c H locs 0 0 Q (F0 m 52 ls []) := by
    intro  H locs hP hD hS ls hl hsh
    unfold shX0_isWord_j_52 at hsh
    refine lv_iconst (v := (1 : Int32)) hx hb dX0_isWord_52 (by decide) ?_
    have ho := Option.some.inj hsh
    rw [← ho] at hret
    exact hret _ _ _ _ nar1 dX0_isWord_53 hP hD hS
  refine lv_aload_n hx hb dX0_isWord_0 rfl (lv_at hl 0 rfl) ?_
  refine kget (ci := 0) S hK hP rfl inX0_isWord_X0 0 rfl 5 (by decide) lkX0_isWord_29 rfl dX0_isWord_1 ?_
  refine lv_iload_n hx hb dX0_isWord_4 rfl (lv_at hl 2 rfl) ?_
  refine lv_isub hx hb dX0_isWord_5 ?_
  refine lv_aload_n hx hb dX0_isWord_6 rfl (lv_at hl 3 rfl) ?_
  refine kVi0 S hK hA (ctJ0_length l D (tys3 cI cJ cZ) tL tM tU adK adV n3 hn3) En_cl (cwV 0 hts gX0_isWord_J0_length_8abf5 rfl rfl rfl hdJ0_length_8abf5 ⟨Nat.le_of_ble_eq_true rfl, Nat.le_of_ble_eq_true rfl⟩) (vk_recv hE.2.2.2.2.2.1 hn3 hS) [] [0, 1, 2] [0, 1, 2] (ws' := (wdX0_isWord cI cJ cZ q_this q_p1 q_numbers q_fresh q_told q_p1_bytes v_faultKind v_faultPlace v_at v_end v_p1_length w_p1_bytes)) ⟨rfl, rfl, rfl, rfl, rfl, rfl, rfl⟩ hE rfl hl.1 rfl (Nat.le_of_ble_eq_true rfl) dX0_isWord_7 hP hD hS (fun H locs hP hD hS => ?_)
  refine lv_icmp_eq (tgt := 15) hx hb dX0_isWord_10 (by decide) (fun c1 => ?_) (fun c1 => ?_)
  · skip
    have hsh := ite_t hsh c1
    refine lv_iconst (v := (0 : Int32)) hx hb dX0_isWord_15 (by decide) ?_
    refine lv_istore (lv' := [(4, .int (0 : Int32)), (0, .ref q_this), (1, .ref q_p1), (2, .int a2), (3, .ref (adK n3))]) hx hb dX0_isWord_16 hl (by decide) rfl (fun ls hl => ?_)
    obtain ⟨r_18, hl_18, hk_18⟩ := bd hsh
    obtain ⟨n_18, hn_18⟩ := lp_iff.mp hl_18
    have L_18 : ∀ (n : Nat) (x4_18 : Int32) (H : Heap) (locs : List Loc), va_P D vwCl (wdX0_isWord cI cJ cZ q_this q_p1 q_numbers q_fresh q_told q_p1_bytes v_faultKind v_faultPlace v_at v_end v_p1_length w_p1_bytes) H → va_D A (wdX0_isWord cI cJ cZ q_this q_p1 q_numbers q_fresh q_told q_p1_bytes v_faultKind v_faultPlace v_at v_end v_p1_length w_p1_bytes) → va_S A s.heap H locs → ∀ ls : Array Slot, lv_has ls 5 [(1, .ref q_p1), (2, .int a2), (3, .ref (adK n3)), (4, .int x4_18)] → it (fun s : Int32 => shX0_isWord_L18 a2 n3 v_p1_length w_p1_bytes s) n x4_18 = some r_18 → W p l e rmX0_isWord s m args below meth c H locs 0 0 Q (F0 m 18 ls []) := by
      intro n
      induction n with
      | zero => exact fun _ _ _ _ _ _ _ _ hi => it_0 hi
      | succ n ih_18 =>
        intro x4_18 H locs hP hD hS ls hl hi
        obtain ⟨b_18, hsh, hB1_18, hB2_18⟩ := it_b hi
        replace hsh : shX0_isWord_L18 a2 n3 v_p1_length w_p1_bytes x4_18 = some b_18 := hsh
        unfold shX0_isWord_L18 at hsh
        refine lv_iload hx hb dX0_isWord_18 (lv_at hl 3 rfl) ?_
        refine lv_aload_n hx hb dX0_isWord_20 rfl (lv_at hl 2 rfl) ?_
        refine kVi0 S hK hA (ctJ0_length l D (tys3 cI cJ cZ) tL tM tU adK adV n3 hn3) En_cl (cwV 0 hts gX0_isWord_J0_length_8abf5 rfl rfl rfl hdJ0_length_8abf5 ⟨Nat.le_of_ble_eq_true rfl, Nat.le_of_ble_eq_true rfl⟩) (vk_recv hE.2.2.2.2.2.1 hn3 hS) [] [0, 1, 2] [0, 1, 2] (ws' := (wdX0_isWord cI cJ cZ q_this q_p1 q_numbers q_fresh q_told q_p1_bytes v_faultKind v_faultPlace v_at v_end v_p1_length w_p1_bytes)) ⟨rfl, rfl, rfl, rfl, rfl, rfl, rfl⟩ hE rfl hl.1 rfl (Nat.le_of_ble_eq_true rfl) dX0_isWord_21 hP hD hS (fun H locs hP hD hS => ?_)
        refine lv_icmp_ge (tgt := 52) hx hb dX0_isWord_24 (by decide) (fun c1 => ?_) (fun c1 => ?_)
        · skip
          have hsh := ite_t hsh c1
          have he := hB2_18 _ hsh
          rw [← he] at hk_18
          have hk_18 := se_r hk_18
          exact Jj_52  H locs hP hD hS ls (lv_sub hl [] rfl) hk_18
        · skip
          have hsh := ite_f hsh c1
          refine lv_aload_n hx hb dX0_isWord_27 rfl (lv_at hl 0 rfl) ?_
          refine lv_iload_n hx hb dX0_isWord_28 rfl (lv_at hl 1 rfl) ?_
          refine lv_iload hx hb dX0_isWord_29 (lv_at hl 3 rfl) ?_
          refine lv_iadd hx hb dX0_isWord_31 ?_
          obtain ⟨o_32, he, hsh⟩ := bd hsh
          refine kVi (ci := 3) S hK hA (ctX3_at l D cI cJ cZ q_p1 q_p1_bytes v_p1_length w_p1_bytes (a2 + x4_18) o_32 he) noE_cl (cwV 1 hts gX0_isWord_X3_at rfl rfl rfl hdX3_at ⟨Nat.le_of_ble_eq_true rfl, Nat.le_of_ble_eq_true rfl⟩) rfl 0 rfl [1, 2] [0] [0, 1, 2] (ws' := (wdX0_isWord cI cJ cZ q_this q_p1 q_numbers q_fresh q_told q_p1_bytes v_faultKind v_faultPlace v_at v_end v_p1_length w_p1_bytes)) ⟨rfl, rfl, rfl, rfl, rfl, rfl, rfl⟩ trivial rfl hl.1 rfl (Nat.le_of_ble_eq_true rfl) dX0_isWord_32 hP hD hS (fun H locs hP hD hS => ?_)
          refine lv_aload_n hx hb dX0_isWord_35 rfl (lv_at hl 2 rfl) ?_
          refine lv_iload hx hb dX0_isWord_36 (lv_at hl 3 rfl) ?_
          obtain ⟨_, hg, hsh⟩ := bd hsh
          refine kVi0 S hK hA (ctJ0_charAt l D (tys3 cI cJ cZ) tL tM tU adK adV n3 hn3 x4_18 (gd_in hg)) En_cl (cwV 1 hts gX0_isWord_J0_charAt_5068e rfl rfl rfl hdJ0_charAt_5068e ⟨Nat.le_of_ble_eq_true rfl, Nat.le_of_ble_eq_true rfl⟩) (vk_recv hE.2.2.2.2.2.1 hn3 hS) [] [0, 1, 2] [0, 1, 2] (ws' := (wdX0_isWord cI cJ cZ q_this q_p1 q_numbers q_fresh q_told q_p1_bytes v_faultKind v_faultPlace v_at v_end v_p1_length w_p1_bytes)) ⟨rfl, rfl, rfl, rfl, rfl, rfl, rfl⟩ hE rfl hl.1 rfl (Nat.le_of_ble_eq_true rfl) dX0_isWord_38 hP hD hS (fun H locs hP hD hS => ?_)
          refine lv_icmp_eq (tgt := 46) hx hb dX0_isWord_41 (by decide) (fun c1 => ?_) (fun c1 => ?_)
          · skip
            have hsh := ite_t hsh c1
            refine lv_iinc (v := (x4_18 + (1 : Int32))) (lv' := [(4, .int (x4_18 + (1 : Int32))), (1, .ref q_p1), (2, .int a2), (3, .ref (adK n3))]) hx hb dX0_isWord_46 hl (k := 3) rfl (congrArg (fun z : Int32 => x4_18 + z) (by decide)) (by decide) rfl (fun ls hl => ?_)
            refine lv_goto (tgt := 18) hx hb dX0_isWord_49 (by decide) ?_
            exact ih_18 (x4_18 + (1 : Int32)) H locs hP hD hS ls (lv_sub hl [1, 2, 3, 0] rfl) (hB1_18 _ hsh)
          · skip
            have hsh := ite_f hsh c1
            have he := hB2_18 _ hsh
            rw [← he] at hk_18
            have hk_18 := se_l hk_18
            exact Jj_44  H locs hP hD hS ls (lv_sub hl [] rfl) hk_18
    exact L_18 n_18 (0 : Int32) H locs hP hD hS ls (lv_sub hl [2, 3, 4, 0] rfl) hn_18
  · skip
    have hsh := ite_f hsh c1
    refine lv_iconst (v := (0 : Int32)) hx hb dX0_isWord_13 (by decide) ?_
    have ho := Option.some.inj hsh
    rw [← ho] at hret
    exact hret _ _ _ _ nar0 dX0_isWord_14 hP hD hS

/-! DryWells$Book.readWord -/
noncomputable def shX0_readWord_j_43 (v_p1_length : Int32) (w_p1_bytes : Nat → Int32) (x2_j_43 : Int32) (v_at_j_43 : Int32) : Option (Int32 × Int32) :=
  ((shX0_isWord x2_j_43 0 v_at_j_43 v_p1_length w_p1_bytes).bind fun o_48 => (if o_48 = 0 then ((shX0_isWord x2_j_43 1 v_at_j_43 v_p1_length w_p1_bytes).bind fun o_61 => (if o_61 = 0 then ((shX0_isWord x2_j_43 2 v_at_j_43 v_p1_length w_p1_bytes).bind fun o_74 => (if o_74 = 0 then some ((-1 : Int32), v_at_j_43) else some ((2 : Int32), v_at_j_43))) else some ((1 : Int32), v_at_j_43))) else some ((0 : Int32), v_at_j_43)))
noncomputable def shX0_readWord_L5 (v_end : Int32) (v_p1_length : Int32) (w_p1_bytes : Nat → Int32) (v_at_5 : Int32) : Option ((Int32) ⊕ ((Int32))) :=
  (if v_end ≤ v_at_5 then some (Sum.inr v_at_5) else ((shX3_at v_at_5 v_p1_length w_p1_bytes).bind fun o_21 => ((shX0_isLetter o_21).bind fun o_24 => (if o_24 = 0 then some (Sum.inr v_at_5) else some (Sum.inl (v_at_5 + (1 : Int32)))))))
noncomputable def shX0_readWord (v_at : Int32) (v_end : Int32) (v_p1_length : Int32) (w_p1_bytes : Nat → Int32) : Option (Int32 × Int32) :=
  ((lp (fun s : Int32 => shX0_readWord_L5 v_end v_p1_length w_p1_bytes s) v_at).bind (fun p : Int32 => shX0_readWord_j_43 v_p1_length w_p1_bytes v_at p))
def wdX0_readWord (cI cJ cZ : ClassId) (q_this q_p1 q_numbers q_fresh q_told q_p1_bytes : Nat) (v_faultKind : Int32) (v_faultPlace : Int32) (v_at : Int32) (v_end : Int32) (v_p1_length : Int32) (w_p1_bytes : Nat → Int32) : va_W := [(q_this, .inr (0, [.ref q_numbers, .ref q_fresh, .ref q_told, .int v_faultKind, .int v_faultPlace, .int v_at, .int v_end])), (q_p1, .inr (3, [.ref q_p1_bytes, .int v_p1_length])), (q_p1_bytes, .inl (cI, 200, .inl w_p1_bytes))]
abbrev rmX0_readWord : Room := { frames := 5, cells := 0, slots := 0, locals := 109 }
theorem inX0_readWord_X0 : ∀ w ∈ u_ws RX0 TX0 7, w ∈ wsX0_readWord := fun _ h => List.mem_cons_of_mem _ (List.mem_append_left _ (List.mem_append_right _ h))
theorem inX0_readWord_X3 : ∀ w ∈ u_ws RX3 TX3 2, w ∈ wsX0_readWord := fun _ h => List.mem_cons_of_mem _ (List.mem_append_right _ h)
theorem lkX0_readWord_29 : Cond.fieldLink RX0 29 (TX0 5).1 (TX0 5).2.1 (TX0 5).2.2.1 ∈ wsX0_readWord := List.mem_of_getElem? (i := 1) rfl
theorem lkX0_readWord_32 : Cond.fieldLink RX0 32 (TX0 6).1 (TX0 6).2.1 (TX0 6).2.2.1 ∈ wsX0_readWord := List.mem_of_getElem? (i := 2) rfl
theorem hdX0_readWord : yX0_readWord.cls = RX0 ∧ yX0_readWord.cls ≠ "java/lang/invoke/MethodHandle" ∧ yX0_readWord.cls ≠ "java/lang/invoke/VarHandle" ∧ (parseMethodDescriptor yX0_readWord.desc).map (fun d => d.parameters.length) = some 1 := by decide +kernel
set_option maxHeartbeats 4000000 in
set_option maxRecDepth 100000 in
theorem ctX0_readWord (l : Launch) (D : va_G) (cI cJ cZ : ClassId) (tL tM tU : Nat) (adK adV : Nat → Nat) (q_this q_p1 q_numbers q_fresh q_told q_p1_bytes : Nat) (v_faultKind : Int32) (v_faultPlace : Int32) (v_at : Int32) (v_end : Int32) (v_p1_length : Int32) (w_p1_bytes : Nat → Int32)  (o : Int32 × Int32) (hsh : shX0_readWord v_at v_end v_p1_length w_p1_bytes = some o) : CtI l yX0_readWord wsX0_readWord rmX0_readWord D (tys3 cI cJ cZ) (En tL tM tU adK adV) (wdX0_readWord cI cJ cZ q_this q_p1 q_numbers q_fresh q_told q_p1_bytes v_faultKind v_faultPlace v_at v_end v_p1_length w_p1_bytes) [.ref q_this, .ref q_p1] o.1 (wdX0_readWord cI cJ cZ q_this q_p1 q_numbers q_fresh q_told q_p1_bytes v_faultKind v_faultPlace o.2 v_end v_p1_length w_p1_bytes) := by
  refine ctI plX0 rfl (Nat.le_of_ble_eq_true rfl) ?_
  intro p e s m below meth c A Q S hK hA hE hret H locs hP hD hS ls hl
  replace S : CallFix p m c cX0_readWord 3 s _ wsX0_readWord RX0 := S
  generalize ([.ref q_this, .ref q_p1] : List Value).toArray = args at S hret ⊢
  obtain ⟨hx, hb, hml, hown, hts⟩ := id S
  replace hl : lv_has ls 3 [(0, .ref q_this), (1, .ref q_p1)] := hl
  unfold shX0_readWord at hsh
  have Jj_43 : ∀ (x2_j_43 : Int32) (v_at_j_43 : Int32) (H : Heap) (locs : List Loc), va_P D vwCl (wdX0_readWord cI cJ cZ q_this q_p1 q_numbers q_fresh q_told q_p1_bytes v_faultKind v_faultPlace v_at_j_43 v_end v_p1_length w_p1_bytes) H → va_D A (wdX0_readWord cI cJ cZ q_this q_p1 q_numbers q_fresh q_told q_p1_bytes v_faultKind v_faultPlace v_at_j_43 v_end v_p1_length w_p1_bytes) → va_S A s.heap H locs → ∀ ls : Array Slot, lv_has ls 3 [(0, .ref q_this), (1, .ref q_p1), (2, .int x2_j_43)] → shX0_readWord_j_43 v_p1_length w_p1_bytes x2_j_43 v_at_j_43 = some o → W p l e rmX0_readWord s m args below meth c H locs 0 0 Q (F0 m 43 ls []) := by
    intro x2_j_43 v_at_j_43 H locs hP hD hS ls hl hsh
    unfold shX0_readWord_j_43 at hsh
    refine lv_aload_n hx hb dX0_readWord_43 rfl (lv_at hl 0 rfl) ?_
    refine lv_aload_n hx hb dX0_readWord_44 rfl (lv_at hl 1 rfl) ?_
    refine lv_iload_n hx hb dX0_readWord_45 rfl (lv_at hl 2 rfl) ?_
    refine va_ldcS hx hb hown hE.2.2.2.2.2.2.1 dX0_readWord_46 ?_
    obtain ⟨o_48, he, hsh⟩ := bd hsh
    refine kVi (ci := 0) S hK hA (ctX0_isWord l D cI cJ cZ tL tM tU adK adV 0 (by decide) q_this q_p1 q_numbers q_fresh q_told q_p1_bytes v_faultKind v_faultPlace v_at_j_43 v_end v_p1_length w_p1_bytes x2_j_43 o_48 he) En_cl (cwV 3 hts gX0_readWord_X0_isWord rfl rfl rfl hdX0_isWord ⟨Nat.le_of_ble_eq_true rfl, Nat.le_of_ble_eq_true rfl⟩) rfl 0 rfl [0, 1, 2] [] [0, 1, 2] (ws' := (wdX0_readWord cI cJ cZ q_this q_p1 q_numbers q_fresh q_told q_p1_bytes v_faultKind v_faultPlace v_at_j_43 v_end v_p1_length w_p1_bytes)) ⟨rfl, rfl, rfl, rfl, rfl, rfl, rfl⟩ hE rfl hl.1 rfl (Nat.le_of_ble_eq_true rfl) dX0_readWord_48 hP hD hS (fun H locs hP hD hS => ?_)
    refine lv_if_eq (tgt := 56) hx hb dX0_readWord_51 (by decide) (fun c1 => ?_) (fun c1 => ?_)
    · skip
      have hsh := ite_t hsh c1
      refine lv_aload_n hx hb dX0_readWord_56 rfl (lv_at hl 0 rfl) ?_
      refine lv_aload_n hx hb dX0_readWord_57 rfl (lv_at hl 1 rfl) ?_
      refine lv_iload_n hx hb dX0_readWord_58 rfl (lv_at hl 2 rfl) ?_
      refine va_ldcS hx hb hown hE.2.2.2.2.2.2.2.1 dX0_readWord_59 ?_
      obtain ⟨o_61, he, hsh⟩ := bd hsh
      refine kVi (ci := 0) S hK hA (ctX0_isWord l D cI cJ cZ tL tM tU adK adV 1 (by decide) q_this q_p1 q_numbers q_fresh q_told q_p1_bytes v_faultKind v_faultPlace v_at_j_43 v_end v_p1_length w_p1_bytes x2_j_43 o_61 he) En_cl (cwV 3 hts gX0_readWord_X0_isWord rfl rfl rfl hdX0_isWord ⟨Nat.le_of_ble_eq_true rfl, Nat.le_of_ble_eq_true rfl⟩) rfl 0 rfl [0, 1, 2] [] [0, 1, 2] (ws' := (wdX0_readWord cI cJ cZ q_this q_p1 q_numbers q_fresh q_told q_p1_bytes v_faultKind v_faultPlace v_at_j_43 v_end v_p1_length w_p1_bytes)) ⟨rfl, rfl, rfl, rfl, rfl, rfl, rfl⟩ hE rfl hl.1 rfl (Nat.le_of_ble_eq_true rfl) dX0_readWord_61 hP hD hS (fun H locs hP hD hS => ?_)
      refine lv_if_eq (tgt := 69) hx hb dX0_readWord_64 (by decide) (fun c1 => ?_) (fun c1 => ?_)
      · skip
        have hsh := ite_t hsh c1
        refine lv_aload_n hx hb dX0_readWord_69 rfl (lv_at hl 0 rfl) ?_
        refine lv_aload_n hx hb dX0_readWord_70 rfl (lv_at hl 1 rfl) ?_
        refine lv_iload_n hx hb dX0_readWord_71 rfl (lv_at hl 2 rfl) ?_
        refine va_ldcS hx hb hown hE.2.2.2.2.2.2.2.2 dX0_readWord_72 ?_
        obtain ⟨o_74, he, hsh⟩ := bd hsh
        refine kVi (ci := 0) S hK hA (ctX0_isWord l D cI cJ cZ tL tM tU adK adV 2 (by decide) q_this q_p1 q_numbers q_fresh q_told q_p1_bytes v_faultKind v_faultPlace v_at_j_43 v_end v_p1_length w_p1_bytes x2_j_43 o_74 he) En_cl (cwV 3 hts gX0_readWord_X0_isWord rfl rfl rfl hdX0_isWord ⟨Nat.le_of_ble_eq_true rfl, Nat.le_of_ble_eq_true rfl⟩) rfl 0 rfl [0, 1, 2] [] [0, 1, 2] (ws' := (wdX0_readWord cI cJ cZ q_this q_p1 q_numbers q_fresh q_told q_p1_bytes v_faultKind v_faultPlace v_at_j_43 v_end v_p1_length w_p1_bytes)) ⟨rfl, rfl, rfl, rfl, rfl, rfl, rfl⟩ hE rfl hl.1 rfl (Nat.le_of_ble_eq_true rfl) dX0_readWord_74 hP hD hS (fun H locs hP hD hS => ?_)
        refine lv_if_eq (tgt := 84) hx hb dX0_readWord_77 (by decide) (fun c1 => ?_) (fun c1 => ?_)
        · skip
          have hsh := ite_t hsh c1
          refine lv_iconst (v := (-1 : Int32)) hx hb dX0_readWord_84 (by decide) ?_
          have ho := Option.some.inj hsh
          rw [← ho] at hret
          exact hret _ _ _ _ dX0_readWord_85 hP hD hS
        · skip
          have hsh := ite_f hsh c1
          refine lv_iconst (v := (2 : Int32)) hx hb dX0_readWord_80 (by decide) ?_
          refine lv_goto (tgt := 85) hx hb dX0_readWord_81 (by decide) ?_
          have ho := Option.some.inj hsh
          rw [← ho] at hret
          exact hret _ _ _ _ dX0_readWord_85 hP hD hS
      · skip
        have hsh := ite_f hsh c1
        refine lv_iconst (v := (1 : Int32)) hx hb dX0_readWord_67 (by decide) ?_
        have ho := Option.some.inj hsh
        rw [← ho] at hret
        exact hret _ _ _ _ dX0_readWord_68 hP hD hS
    · skip
      have hsh := ite_f hsh c1
      refine lv_iconst (v := (0 : Int32)) hx hb dX0_readWord_54 (by decide) ?_
      have ho := Option.some.inj hsh
      rw [← ho] at hret
      exact hret _ _ _ _ dX0_readWord_55 hP hD hS
  refine lv_aload_n hx hb dX0_readWord_0 rfl (lv_at hl 0 rfl) ?_
  refine kget (ci := 0) S hK hP rfl inX0_readWord_X0 0 rfl 5 (by decide) lkX0_readWord_29 rfl dX0_readWord_1 ?_
  refine lv_istore_n (lv' := [(2, .int v_at), (0, .ref q_this), (1, .ref q_p1)]) hx hb dX0_readWord_4 rfl hl (by decide) rfl (fun ls hl => ?_)
  obtain ⟨r_5, hl_5, hk_5⟩ := bd hsh
  obtain ⟨n_5, hn_5⟩ := lp_iff.mp hl_5
  have L_5 : ∀ (n : Nat) (v_at_5 : Int32) (H : Heap) (locs : List Loc), va_P D vwCl (wdX0_readWord cI cJ cZ q_this q_p1 q_numbers q_fresh q_told q_p1_bytes v_faultKind v_faultPlace v_at_5 v_end v_p1_length w_p1_bytes) H → va_D A (wdX0_readWord cI cJ cZ q_this q_p1 q_numbers q_fresh q_told q_p1_bytes v_faultKind v_faultPlace v_at_5 v_end v_p1_length w_p1_bytes) → va_S A s.heap H locs → ∀ ls : Array Slot, lv_has ls 3 [(0, .ref q_this), (1, .ref q_p1), (2, .int v_at)] → it (fun s : Int32 => shX0_readWord_L5 v_end v_p1_length w_p1_bytes s) n v_at_5 = some r_5 → W p l e rmX0_readWord s m args below meth c H locs 0 0 Q (F0 m 5 ls []) := by
    intro n
    induction n with
    | zero => exact fun _ _ _ _ _ _ _ _ hi => it_0 hi
    | succ n ih_5 =>
      intro v_at_5 H locs hP hD hS ls hl hi
      obtain ⟨b_5, hsh, hB1_5, hB2_5⟩ := it_b hi
      replace hsh : shX0_readWord_L5 v_end v_p1_length w_p1_bytes v_at_5 = some b_5 := hsh
      unfold shX0_readWord_L5 at hsh
      refine lv_aload_n hx hb dX0_readWord_5 rfl (lv_at hl 0 rfl) ?_
      refine kget (ci := 0) S hK hP rfl inX0_readWord_X0 0 rfl 5 (by decide) lkX0_readWord_29 rfl dX0_readWord_6 ?_
      refine lv_aload_n hx hb dX0_readWord_9 rfl (lv_at hl 0 rfl) ?_
      refine kget (ci := 0) S hK hP rfl inX0_readWord_X0 0 rfl 6 (by decide) lkX0_readWord_32 rfl dX0_readWord_10 ?_
      refine lv_icmp_ge (tgt := 43) hx hb dX0_readWord_13 (by decide) (fun c1 => ?_) (fun c1 => ?_)
      · skip
        have hsh := ite_t hsh c1
        have he := hB2_5 _ hsh
        rw [← he] at hk_5
        exact Jj_43 v_at v_at_5 H locs hP hD hS ls (lv_sub hl [0, 1, 2] rfl) hk_5
      · skip
        have hsh := ite_f hsh c1
        refine lv_aload_n hx hb dX0_readWord_16 rfl (lv_at hl 1 rfl) ?_
        refine lv_aload_n hx hb dX0_readWord_17 rfl (lv_at hl 0 rfl) ?_
        refine kget (ci := 0) S hK hP rfl inX0_readWord_X0 0 rfl 5 (by decide) lkX0_readWord_29 rfl dX0_readWord_18 ?_
        obtain ⟨o_21, he, hsh⟩ := bd hsh
        refine kVi (ci := 3) S hK hA (ctX3_at l D cI cJ cZ q_p1 q_p1_bytes v_p1_length w_p1_bytes v_at_5 o_21 he) noE_cl (cwV 1 hts gX0_readWord_X3_at rfl rfl rfl hdX3_at ⟨Nat.le_of_ble_eq_true rfl, Nat.le_of_ble_eq_true rfl⟩) rfl 0 rfl [1, 2] [0] [0, 1, 2] (ws' := (wdX0_readWord cI cJ cZ q_this q_p1 q_numbers q_fresh q_told q_p1_bytes v_faultKind v_faultPlace v_at_5 v_end v_p1_length w_p1_bytes)) ⟨rfl, rfl, rfl, rfl, rfl, rfl, rfl⟩ trivial rfl hl.1 rfl (Nat.le_of_ble_eq_true rfl) dX0_readWord_21 hP hD hS (fun H locs hP hD hS => ?_)
        obtain ⟨o_24, he, hsh⟩ := bd hsh
        refine kSi S hK hA (ctX0_isLetter l D cI cJ cZ o_21 o_24 he) noE_cl (va_cwS 1 hts gX0_readWord_X0_isLetter rfl rfl rfl hdX0_isLetter ⟨Nat.le_of_ble_eq_true rfl, Nat.le_of_ble_eq_true rfl⟩) [] [0, 1, 2] [0, 1, 2] (ws' := (wdX0_readWord cI cJ cZ q_this q_p1 q_numbers q_fresh q_told q_p1_bytes v_faultKind v_faultPlace v_at_5 v_end v_p1_length w_p1_bytes)) ⟨rfl, rfl, rfl, rfl, rfl, rfl, rfl⟩ trivial rfl hl.1 rfl (Nat.le_of_ble_eq_true rfl) dX0_readWord_24 hP hD hS (fun H locs hP hD hS => ?_)
        refine lv_if_eq (tgt := 43) hx hb dX0_readWord_27 (by decide) (fun c1 => ?_) (fun c1 => ?_)
        · skip
          have hsh := ite_t hsh c1
          have he := hB2_5 _ hsh
          rw [← he] at hk_5
          exact Jj_43 v_at v_at_5 H locs hP hD hS ls (lv_sub hl [0, 1, 2] rfl) hk_5
        · skip
          have hsh := ite_f hsh c1
          refine lv_aload_n hx hb dX0_readWord_30 rfl (lv_at hl 0 rfl) ?_
          refine lv_dup hx hb dX0_readWord_31 rfl ?_
          refine kget (ci := 0) S hK hP rfl inX0_readWord_X0 0 rfl 5 (by decide) lkX0_readWord_29 rfl dX0_readWord_32 ?_
          refine lv_iconst (v := (1 : Int32)) hx hb dX0_readWord_35 (by decide) ?_
          refine lv_iadd hx hb dX0_readWord_36 ?_
          refine kput (ci := 0) S hK hP hD hS rfl inX0_readWord_X0 tyX0_ok nmX0 0 rfl 5 (by decide) lkX0_readWord_29 rfl rfl rfl (Nat.le_of_ble_eq_true rfl) (ws' := (wdX0_readWord cI cJ cZ q_this q_p1 q_numbers q_fresh q_told q_p1_bytes v_faultKind v_faultPlace (v_at_5 + (1 : Int32)) v_end v_p1_length w_p1_bytes)) rfl dX0_readWord_37 (fun H locs hP hD hS => ?_)
          refine lv_goto (tgt := 5) hx hb dX0_readWord_40 (by decide) ?_
          exact ih_5 (v_at_5 + (1 : Int32)) H locs hP hD hS ls (lv_sub hl [0, 1, 2] rfl) (hB1_5 _ hsh)
  exact L_5 n_5 v_at H locs hP hD hS ls (lv_sub hl [1, 2, 0] rfl) hn_5

/-! DryWells$Book.fail -/
noncomputable def shX0_fail (a1 : Int32) (a2 : Int32) (v_faultKind : Int32) (v_faultPlace : Int32) : Option (Int32 × Int32 × Int32) :=
  some ((0 : Int32), a1, a2)
def wdX0_fail (cI cJ cZ : ClassId) (q_this q_numbers q_fresh q_told : Nat) (v_faultKind : Int32) (v_faultPlace : Int32) (v_at : Int32) (v_end : Int32) : va_W := [(q_this, .inr (0, [.ref q_numbers, .ref q_fresh, .ref q_told, .int v_faultKind, .int v_faultPlace, .int v_at, .int v_end]))]
abbrev rmX0_fail : Room := { frames := 0, cells := 0, slots := 0, locals := 0 }
theorem inX0_fail_X0 : ∀ w ∈ u_ws RX0 TX0 7, w ∈ wsX0_fail := fun _ h => List.mem_cons_of_mem _ (List.mem_append_right _ h)
theorem lkX0_fail_22 : Cond.fieldLink RX0 22 (TX0 3).1 (TX0 3).2.1 (TX0 3).2.2.1 ∈ wsX0_fail := List.mem_of_getElem? (i := 1) rfl
theorem lkX0_fail_26 : Cond.fieldLink RX0 26 (TX0 4).1 (TX0 4).2.1 (TX0 4).2.2.1 ∈ wsX0_fail := List.mem_of_getElem? (i := 2) rfl
theorem hdX0_fail : yX0_fail.cls = RX0 ∧ yX0_fail.cls ≠ "java/lang/invoke/MethodHandle" ∧ yX0_fail.cls ≠ "java/lang/invoke/VarHandle" ∧ (parseMethodDescriptor yX0_fail.desc).map (fun d => d.parameters.length) = some 2 := by decide +kernel
set_option maxHeartbeats 4000000 in
set_option maxRecDepth 100000 in
theorem ctX0_fail (l : Launch) (D : va_G) (cI cJ cZ : ClassId) (q_this q_numbers q_fresh q_told : Nat) (v_faultKind : Int32) (v_faultPlace : Int32) (v_at : Int32) (v_end : Int32) (a1 : Int32) (a2 : Int32) (o : Int32 × Int32 × Int32) (hsh : shX0_fail a1 a2 v_faultKind v_faultPlace = some o) : CtI l yX0_fail wsX0_fail rmX0_fail D (tys3 cI cJ cZ) noE (wdX0_fail cI cJ cZ q_this q_numbers q_fresh q_told v_faultKind v_faultPlace v_at v_end) [.ref q_this, .int a1, .int a2] o.1 (wdX0_fail cI cJ cZ q_this q_numbers q_fresh q_told o.2.1 o.2.2 v_at v_end) := by
  refine ctZ plX0 rfl (Nat.le_of_ble_eq_true rfl) ?_
  intro p e s m below meth c A Q S hK hA hE hret H locs hP hD hS ls hl
  replace S : CallFix p m c cX0_fail 3 s _ wsX0_fail RX0 := S
  generalize ([.ref q_this, .int a1, .int a2] : List Value).toArray = args at S hret ⊢
  obtain ⟨hx, hb, hml, hown, hts⟩ := id S
  replace hl : lv_has ls 3 [(0, .ref q_this), (1, .int a1), (2, .int a2)] := hl
  unfold shX0_fail at hsh
  refine lv_aload_n hx hb dX0_fail_0 rfl (lv_at hl 0 rfl) ?_
  refine lv_iload_n hx hb dX0_fail_1 rfl (lv_at hl 1 rfl) ?_
  refine kput (ci := 0) S hK hP hD hS rfl inX0_fail_X0 tyX0_ok nmX0 0 rfl 3 (by decide) lkX0_fail_22 rfl rfl rfl (Nat.le_of_ble_eq_true rfl) (ws' := (wdX0_fail cI cJ cZ q_this q_numbers q_fresh q_told a1 v_faultPlace v_at v_end)) rfl dX0_fail_2 (fun H locs hP hD hS => ?_)
  refine lv_aload_n hx hb dX0_fail_5 rfl (lv_at hl 0 rfl) ?_
  refine lv_iload_n hx hb dX0_fail_6 rfl (lv_at hl 2 rfl) ?_
  refine kput (ci := 0) S hK hP hD hS rfl inX0_fail_X0 tyX0_ok nmX0 0 rfl 4 (by decide) lkX0_fail_26 rfl rfl rfl (Nat.le_of_ble_eq_true rfl) (ws' := (wdX0_fail cI cJ cZ q_this q_numbers q_fresh q_told a1 a2 v_at v_end)) rfl dX0_fail_7 (fun H locs hP hD hS => ?_)
  refine lv_iconst (v := (0 : Int32)) hx hb dX0_fail_10 (by decide) ?_
  have ho := Option.some.inj hsh
  rw [← ho] at hret
  exact hret _ _ _ _ nar0 dX0_fail_11 hP hD hS

/-! DryWells$Book.isDigit -/
noncomputable def shX0_isDigit (a0 : Int32) : Option (Int32) :=
  (if a0 < (48 : Int32) then some (0 : Int32) else (if (57 : Int32) < a0 then some (0 : Int32) else some (1 : Int32)))
def wdX0_isDigit (cI cJ cZ : ClassId)   : va_W := []
abbrev rmX0_isDigit : Room := { frames := 0, cells := 0, slots := 0, locals := 0 }
theorem hdX0_isDigit : yX0_isDigit.cls ≠ "java/lang/invoke/MethodHandle" ∧ yX0_isDigit.cls ≠ "java/lang/invoke/VarHandle" ∧ (parseMethodDescriptor yX0_isDigit.desc).map (fun d => d.parameters.length) = some 1 := by decide +kernel
set_option maxHeartbeats 4000000 in
set_option maxRecDepth 100000 in
theorem ctX0_isDigit (l : Launch) (D : va_G) (cI cJ cZ : ClassId)  (a0 : Int32) (o : Int32) (hsh : shX0_isDigit a0 = some o) : CtI l yX0_isDigit wsX0_isDigit rmX0_isDigit D (tys3 cI cJ cZ) noE (wdX0_isDigit cI cJ cZ ) [.int a0] o (wdX0_isDigit cI cJ cZ ) := by
  refine ctZ plX0 rfl (Nat.le_of_ble_eq_true rfl) ?_
  intro p e s m below meth c A Q S hK hA hE hret H locs hP hD hS ls hl
  replace S : CallFix p m c cX0_isDigit 1 s _ wsX0_isDigit RX0 := S
  generalize ([.int a0] : List Value).toArray = args at S hret ⊢
  obtain ⟨hx, hb, hml, hown, hts⟩ := id S
  replace hl : lv_has ls 1 [(0, .int a0)] := hl
  unfold shX0_isDigit at hsh
  refine lv_iload_n hx hb dX0_isDigit_0 rfl (lv_at hl 0 rfl) ?_
  refine lv_bipush (v := (48 : Int32)) hx hb dX0_isDigit_1 (by decide) ?_
  refine lv_icmp_lt (tgt := 16) hx hb dX0_isDigit_3 (by decide) (fun c1 => ?_) (fun c1 => ?_)
  · skip
    have hsh := ite_t hsh c1
    refine lv_iconst (v := (0 : Int32)) hx hb dX0_isDigit_16 (by decide) ?_
    have ho := Option.some.inj hsh
    rw [← ho] at hret
    exact hret _ _ _ _ nar0 dX0_isDigit_17 hP hD hS
  · skip
    have hsh := ite_f hsh c1
    refine lv_iload_n hx hb dX0_isDigit_6 rfl (lv_at hl 0 rfl) ?_
    refine lv_bipush (v := (57 : Int32)) hx hb dX0_isDigit_7 (by decide) ?_
    refine lv_icmp_gt (tgt := 16) hx hb dX0_isDigit_9 (by decide) (fun c1 => ?_) (fun c1 => ?_)
    · skip
      have hsh := ite_t hsh c1
      refine lv_iconst (v := (0 : Int32)) hx hb dX0_isDigit_16 (by decide) ?_
      have ho := Option.some.inj hsh
      rw [← ho] at hret
      exact hret _ _ _ _ nar0 dX0_isDigit_17 hP hD hS
    · skip
      have hsh := ite_f hsh c1
      refine lv_iconst (v := (1 : Int32)) hx hb dX0_isDigit_12 (by decide) ?_
      refine lv_goto (tgt := 17) hx hb dX0_isDigit_13 (by decide) ?_
      have ho := Option.some.inj hsh
      rw [← ho] at hret
      exact hret _ _ _ _ nar1 dX0_isDigit_17 hP hD hS

/-! DryWells$Book.readNumber -/
noncomputable def shX0_readNumber_j_105 (v_faultKind : Int32) (v_faultPlace : Int32) (w_fresh : Nat → Int32) (x3_j_105 : Int32) (v_at_j_105 : Int32) : Option (Int32 × Int32 × Int32 × Int32 × (Nat → Int32)) :=
  ((shX0_fail (2 : Int32) x3_j_105 v_faultKind v_faultPlace).bind fun o_108 => ((gz o_108.1).bind fun _ => some (o_108.1, o_108.2.1, o_108.2.2, v_at_j_105, w_fresh)))
noncomputable def shX0_readNumber_j_70 (a2 : Int32) (v_faultKind : Int32) (v_faultPlace : Int32) (w_fresh : Nat → Int32) (x3_j_70 : Int32) (x4_j_70 : Int32) (v_at_j_70 : Int32) : Option (Int32 × Int32 × Int32 × Int32 × (Nat → Int32)) :=
  (if ¬ v_at_j_70 = x3_j_70 then ((gd a2 3).bind fun _ => (if x4_j_70 < (tb_LEAST (a2).toNatClampNeg) then (shX0_readNumber_j_105 v_faultKind v_faultPlace w_fresh x3_j_70 v_at_j_70) else ((gd a2 3).bind fun _ => (if x4_j_70 ≤ (tb_MOST (a2).toNatClampNeg) then ((gd a2 3).bind fun _ => some ((1 : Int32), v_faultKind, v_faultPlace, v_at_j_70, (upd w_fresh (a2).toNatClampNeg x4_j_70))) else (shX0_readNumber_j_105 v_faultKind v_faultPlace w_fresh x3_j_70 v_at_j_70))))) else ((shX0_fail (1 : Int32) x3_j_70 v_faultKind v_faultPlace).bind fun o_81 => ((gz o_81.1).bind fun _ => some (o_81.1, o_81.2.1, o_81.2.2, v_at_j_70, w_fresh))))
noncomputable def shX0_readNumber_L8 (v_end : Int32) (v_p1_length : Int32) (w_p1_bytes : Nat → Int32) (x4_8 : Int32) (v_at_8 : Int32) : Option ((Int32 × Int32) ⊕ ((Int32 × Int32))) :=
  (if v_end ≤ v_at_8 then some (Sum.inr (x4_8, v_at_8)) else ((shX3_at v_at_8 v_p1_length w_p1_bytes).bind fun o_24 => ((shX0_isDigit o_24).bind fun o_27 => (if o_27 = 0 then some (Sum.inr (x4_8, v_at_8)) else ((shX3_at v_at_8 v_p1_length w_p1_bytes).bind fun o_45 => some (Sum.inl ((if (((x4_8 * (10 : Int32)) + o_45) - (48 : Int32)) < (100000 : Int32) then (((x4_8 * (10 : Int32)) + o_45) - (48 : Int32)) else (100000 : Int32)), (v_at_8 + (1 : Int32)))))))))
noncomputable def shX0_readNumber (a2 : Int32) (v_faultKind : Int32) (v_faultPlace : Int32) (v_at : Int32) (v_end : Int32) (w_fresh : Nat → Int32) (v_p1_length : Int32) (w_p1_bytes : Nat → Int32) : Option (Int32 × Int32 × Int32 × Int32 × (Nat → Int32)) :=
  ((lp (fun s : Int32 × Int32 => shX0_readNumber_L8 v_end v_p1_length w_p1_bytes s.1 s.2) ((0 : Int32), v_at)).bind (fun p : Int32 × Int32 => shX0_readNumber_j_70 a2 v_faultKind v_faultPlace w_fresh v_at p.1 p.2))
def wdX0_readNumber (cI cJ cZ : ClassId) (q_this q_p1 q_numbers q_fresh q_told q_p1_bytes : Nat) (v_faultKind : Int32) (v_faultPlace : Int32) (v_at : Int32) (v_end : Int32) (v_p1_length : Int32) (w_fresh : Nat → Int32) (w_p1_bytes : Nat → Int32) : va_W := [(q_this, .inr (0, [.ref q_numbers, .ref q_fresh, .ref q_told, .int v_faultKind, .int v_faultPlace, .int v_at, .int v_end])), (q_fresh, .inl (cI, 3, .inl w_fresh)), (q_p1, .inr (3, [.ref q_p1_bytes, .int v_p1_length])), (q_p1_bytes, .inl (cI, 200, .inl w_p1_bytes))]
abbrev rmX0_readNumber : Room := { frames := 1, cells := 0, slots := 0, locals := 23 }
theorem inX0_readNumber_X0 : ∀ w ∈ u_ws RX0 TX0 7, w ∈ wsX0_readNumber := fun _ h => List.mem_cons_of_mem _ (List.mem_append_left _ (List.mem_append_right _ h))
theorem inX0_readNumber_X3 : ∀ w ∈ u_ws RX3 TX3 2, w ∈ wsX0_readNumber := fun _ h => List.mem_cons_of_mem _ (List.mem_append_right _ h)
theorem lkX0_readNumber_29 : Cond.fieldLink RX0 29 (TX0 5).1 (TX0 5).2.1 (TX0 5).2.2.1 ∈ wsX0_readNumber := List.mem_of_getElem? (i := 1) rfl
theorem lkX0_readNumber_15 : Cond.fieldLink RX0 15 (TX0 1).1 (TX0 1).2.1 (TX0 1).2.2.1 ∈ wsX0_readNumber := List.mem_of_getElem? (i := 10) rfl
theorem lkX0_readNumber_32 : Cond.fieldLink RX0 32 (TX0 6).1 (TX0 6).2.1 (TX0 6).2.2.1 ∈ wsX0_readNumber := List.mem_of_getElem? (i := 2) rfl
theorem hdX0_readNumber : yX0_readNumber.cls = RX0 ∧ yX0_readNumber.cls ≠ "java/lang/invoke/MethodHandle" ∧ yX0_readNumber.cls ≠ "java/lang/invoke/VarHandle" ∧ (parseMethodDescriptor yX0_readNumber.desc).map (fun d => d.parameters.length) = some 2 := by decide +kernel
set_option maxHeartbeats 4000000 in
set_option maxRecDepth 100000 in
theorem ctX0_readNumber (l : Launch) (D : va_G) (cI cJ cZ : ClassId) (tL tM tU : Nat) (adK adV : Nat → Nat) (q_this q_p1 q_numbers q_fresh q_told q_p1_bytes : Nat) (v_faultKind : Int32) (v_faultPlace : Int32) (v_at : Int32) (v_end : Int32) (v_p1_length : Int32) (w_fresh : Nat → Int32) (w_p1_bytes : Nat → Int32) (a2 : Int32) (o : Int32 × Int32 × Int32 × Int32 × (Nat → Int32)) (hsh : shX0_readNumber a2 v_faultKind v_faultPlace v_at v_end w_fresh v_p1_length w_p1_bytes = some o) : CtI l yX0_readNumber wsX0_readNumber rmX0_readNumber D (tys3 cI cJ cZ) (En tL tM tU adK adV) (wdX0_readNumber cI cJ cZ q_this q_p1 q_numbers q_fresh q_told q_p1_bytes v_faultKind v_faultPlace v_at v_end v_p1_length w_fresh w_p1_bytes) [.ref q_this, .ref q_p1, .int a2] o.1 (wdX0_readNumber cI cJ cZ q_this q_p1 q_numbers q_fresh q_told q_p1_bytes o.2.1 o.2.2.1 o.2.2.2.1 v_end v_p1_length o.2.2.2.2 w_p1_bytes) := by
  refine ctZ plX0 rfl (Nat.le_of_ble_eq_true rfl) ?_
  intro p e s m below meth c A Q S hK hA hE hret H locs hP hD hS ls hl
  replace S : CallFix p m c cX0_readNumber 5 s _ wsX0_readNumber RX0 := S
  generalize ([.ref q_this, .ref q_p1, .int a2] : List Value).toArray = args at S hret ⊢
  obtain ⟨hx, hb, hml, hown, hts⟩ := id S
  replace hl : lv_has ls 5 [(0, .ref q_this), (1, .ref q_p1), (2, .int a2)] := hl
  unfold shX0_readNumber at hsh
  have Jj_105 : ∀ (x3_j_105 : Int32) (v_at_j_105 : Int32) (H : Heap) (locs : List Loc), va_P D vwCl (wdX0_readNumber cI cJ cZ q_this q_p1 q_numbers q_fresh q_told q_p1_bytes v_faultKind v_faultPlace v_at_j_105 v_end v_p1_length w_fresh w_p1_bytes) H → va_D A (wdX0_readNumber cI cJ cZ q_this q_p1 q_numbers q_fresh q_told q_p1_bytes v_faultKind v_faultPlace v_at_j_105 v_end v_p1_length w_fresh w_p1_bytes) → va_S A s.heap H locs → ∀ ls : Array Slot, lv_has ls 5 [(0, .ref q_this), (3, .int x3_j_105)] → shX0_readNumber_j_105 v_faultKind v_faultPlace w_fresh x3_j_105 v_at_j_105 = some o → W p l e rmX0_readNumber s m args below meth c H locs 0 0 Q (F0 m 105 ls []) := by
    intro x3_j_105 v_at_j_105 H locs hP hD hS ls hl hsh
    unfold shX0_readNumber_j_105 at hsh
    refine lv_aload_n hx hb dX0_readNumber_105 rfl (lv_at hl 0 rfl) ?_
    refine lv_iconst (v := (2 : Int32)) hx hb dX0_readNumber_106 (by decide) ?_
    refine lv_iload_n hx hb dX0_readNumber_107 rfl (lv_at hl 1 rfl) ?_
    obtain ⟨o_108, he, hsh⟩ := bd hsh
    refine kVi (ci := 0) S hK hA (ctX0_fail l D cI cJ cZ q_this q_numbers q_fresh q_told v_faultKind v_faultPlace v_at_j_105 v_end (2 : Int32) x3_j_105 o_108 he) noE_cl (cwV 2 hts gX0_readNumber_X0_fail rfl rfl rfl hdX0_fail ⟨Nat.le_of_ble_eq_true rfl, Nat.le_of_ble_eq_true rfl⟩) rfl 0 rfl [0] [1, 2, 3] [3, 0, 1, 2] (ws' := (wdX0_readNumber cI cJ cZ q_this q_p1 q_numbers q_fresh q_told q_p1_bytes o_108.2.1 o_108.2.2 v_at_j_105 v_end v_p1_length w_fresh w_p1_bytes)) ⟨rfl, rfl, rfl, rfl, rfl, rfl, rfl⟩ trivial rfl hl.1 rfl (Nat.le_of_ble_eq_true rfl) dX0_readNumber_108 hP hD hS (fun H locs hP hD hS => ?_)
    obtain ⟨_, hz, hsh⟩ := bd hsh
    have ho := Option.some.inj hsh
    rw [← ho] at hret
    exact hret _ _ _ _ (gz_nar hz) dX0_readNumber_111 hP hD hS
  have Jj_70 : ∀ (x3_j_70 : Int32) (x4_j_70 : Int32) (v_at_j_70 : Int32) (H : Heap) (locs : List Loc), va_P D vwCl (wdX0_readNumber cI cJ cZ q_this q_p1 q_numbers q_fresh q_told q_p1_bytes v_faultKind v_faultPlace v_at_j_70 v_end v_p1_length w_fresh w_p1_bytes) H → va_D A (wdX0_readNumber cI cJ cZ q_this q_p1 q_numbers q_fresh q_told q_p1_bytes v_faultKind v_faultPlace v_at_j_70 v_end v_p1_length w_fresh w_p1_bytes) → va_S A s.heap H locs → ∀ ls : Array Slot, lv_has ls 5 [(0, .ref q_this), (2, .int a2), (3, .int x3_j_70), (4, .int x4_j_70)] → shX0_readNumber_j_70 a2 v_faultKind v_faultPlace w_fresh x3_j_70 x4_j_70 v_at_j_70 = some o → W p l e rmX0_readNumber s m args below meth c H locs 0 0 Q (F0 m 70 ls []) := by
    intro x3_j_70 x4_j_70 v_at_j_70 H locs hP hD hS ls hl hsh
    unfold shX0_readNumber_j_70 at hsh
    refine lv_aload_n hx hb dX0_readNumber_70 rfl (lv_at hl 0 rfl) ?_
    refine kget (ci := 0) S hK hP rfl inX0_readNumber_X0 0 rfl 5 (by decide) lkX0_readNumber_29 rfl dX0_readNumber_71 ?_
    refine lv_iload_n hx hb dX0_readNumber_74 rfl (lv_at hl 2 rfl) ?_
    refine lv_icmp_ne (tgt := 85) hx hb dX0_readNumber_75 (by decide) (fun c1 => ?_) (fun c1 => ?_)
    · skip
      have hsh := ite_t hsh c1
      refine lv_iload hx hb dX0_readNumber_85 (lv_at hl 3 rfl) ?_
      refine va_gets hx hb hE.1.1 hS hown (hts _ (List.mem_of_getElem? (i := 8) rfl)) (fun _ h => h) dX0_readNumber_87 ?_
      refine lv_iload_n hx hb dX0_readNumber_90 rfl (lv_at hl 1 rfl) ?_
      obtain ⟨_, hg, hsh⟩ := bd hsh
      refine va_ti hx hb hE.1.2 hS (gd_in hg) rfl dX0_readNumber_91 ?_
      refine lv_icmp_lt (tgt := 105) hx hb dX0_readNumber_92 (by decide) (fun c1 => ?_) (fun c1 => ?_)
      · skip
        have hsh := ite_t hsh c1
        exact Jj_105 x3_j_70 v_at_j_70 H locs hP hD hS ls (lv_sub hl [0, 2] rfl) hsh
      · skip
        have hsh := ite_f hsh c1
        refine lv_iload hx hb dX0_readNumber_95 (lv_at hl 3 rfl) ?_
        refine va_gets hx hb hE.2.1.1 hS hown (hts _ (List.mem_of_getElem? (i := 9) rfl)) (fun _ h => h) dX0_readNumber_97 ?_
        refine lv_iload_n hx hb dX0_readNumber_100 rfl (lv_at hl 1 rfl) ?_
        obtain ⟨_, hg, hsh⟩ := bd hsh
        refine va_ti hx hb hE.2.1.2 hS (gd_in hg) rfl dX0_readNumber_101 ?_
        refine lv_icmp_le (tgt := 112) hx hb dX0_readNumber_102 (by decide) (fun c1 => ?_) (fun c1 => ?_)
        · skip
          have hsh := ite_t hsh c1
          refine lv_aload_n hx hb dX0_readNumber_112 rfl (lv_at hl 0 rfl) ?_
          refine kget (ci := 0) S hK hP rfl inX0_readNumber_X0 0 rfl 1 (by decide) lkX0_readNumber_15 rfl dX0_readNumber_113 ?_
          refine lv_iload_n hx hb dX0_readNumber_116 rfl (lv_at hl 1 rfl) ?_
          refine lv_iload hx hb dX0_readNumber_117 (lv_at hl 3 rfl) ?_
          obtain ⟨_, hg, hsh⟩ := bd hsh
          refine kias S hK hP hD hS 1 0 rfl rfl (gd_in hg) (ws' := (wdX0_readNumber cI cJ cZ q_this q_p1 q_numbers q_fresh q_told q_p1_bytes v_faultKind v_faultPlace v_at_j_70 v_end v_p1_length (upd w_fresh (a2).toNatClampNeg x4_j_70) w_p1_bytes)) rfl dX0_readNumber_119 (fun H locs hP hD hS => ?_)
          refine lv_iconst (v := (1 : Int32)) hx hb dX0_readNumber_120 (by decide) ?_
          have ho := Option.some.inj hsh
          rw [← ho] at hret
          exact hret _ _ _ _ nar1 dX0_readNumber_121 hP hD hS
        · skip
          have hsh := ite_f hsh c1
          exact Jj_105 x3_j_70 v_at_j_70 H locs hP hD hS ls (lv_sub hl [0, 2] rfl) hsh
    · skip
      have hsh := ite_f hsh (fun h => h c1)
      refine lv_aload_n hx hb dX0_readNumber_78 rfl (lv_at hl 0 rfl) ?_
      refine lv_iconst (v := (1 : Int32)) hx hb dX0_readNumber_79 (by decide) ?_
      refine lv_iload_n hx hb dX0_readNumber_80 rfl (lv_at hl 2 rfl) ?_
      obtain ⟨o_81, he, hsh⟩ := bd hsh
      refine kVi (ci := 0) S hK hA (ctX0_fail l D cI cJ cZ q_this q_numbers q_fresh q_told v_faultKind v_faultPlace v_at_j_70 v_end (1 : Int32) x3_j_70 o_81 he) noE_cl (cwV 2 hts gX0_readNumber_X0_fail rfl rfl rfl hdX0_fail ⟨Nat.le_of_ble_eq_true rfl, Nat.le_of_ble_eq_true rfl⟩) rfl 0 rfl [0] [1, 2, 3] [3, 0, 1, 2] (ws' := (wdX0_readNumber cI cJ cZ q_this q_p1 q_numbers q_fresh q_told q_p1_bytes o_81.2.1 o_81.2.2 v_at_j_70 v_end v_p1_length w_fresh w_p1_bytes)) ⟨rfl, rfl, rfl, rfl, rfl, rfl, rfl⟩ trivial rfl hl.1 rfl (Nat.le_of_ble_eq_true rfl) dX0_readNumber_81 hP hD hS (fun H locs hP hD hS => ?_)
      obtain ⟨_, hz, hsh⟩ := bd hsh
      have ho := Option.some.inj hsh
      rw [← ho] at hret
      exact hret _ _ _ _ (gz_nar hz) dX0_readNumber_84 hP hD hS
  refine lv_aload_n hx hb dX0_readNumber_0 rfl (lv_at hl 0 rfl) ?_
  refine kget (ci := 0) S hK hP rfl inX0_readNumber_X0 0 rfl 5 (by decide) lkX0_readNumber_29 rfl dX0_readNumber_1 ?_
  refine lv_istore_n (lv' := [(3, .int v_at), (0, .ref q_this), (1, .ref q_p1), (2, .int a2)]) hx hb dX0_readNumber_4 rfl hl (by decide) rfl (fun ls hl => ?_)
  refine lv_iconst (v := (0 : Int32)) hx hb dX0_readNumber_5 (by decide) ?_
  refine lv_istore (lv' := [(4, .int (0 : Int32)), (3, .int v_at), (0, .ref q_this), (1, .ref q_p1), (2, .int a2)]) hx hb dX0_readNumber_6 hl (by decide) rfl (fun ls hl => ?_)
  obtain ⟨r_8, hl_8, hk_8⟩ := bd hsh
  obtain ⟨n_8, hn_8⟩ := lp_iff.mp hl_8
  have L_8 : ∀ (n : Nat) (x4_8 : Int32) (v_at_8 : Int32) (H : Heap) (locs : List Loc), va_P D vwCl (wdX0_readNumber cI cJ cZ q_this q_p1 q_numbers q_fresh q_told q_p1_bytes v_faultKind v_faultPlace v_at_8 v_end v_p1_length w_fresh w_p1_bytes) H → va_D A (wdX0_readNumber cI cJ cZ q_this q_p1 q_numbers q_fresh q_told q_p1_bytes v_faultKind v_faultPlace v_at_8 v_end v_p1_length w_fresh w_p1_bytes) → va_S A s.heap H locs → ∀ ls : Array Slot, lv_has ls 5 [(0, .ref q_this), (1, .ref q_p1), (2, .int a2), (3, .int v_at), (4, .int x4_8)] → it (fun s : Int32 × Int32 => shX0_readNumber_L8 v_end v_p1_length w_p1_bytes s.1 s.2) n (x4_8, v_at_8) = some r_8 → W p l e rmX0_readNumber s m args below meth c H locs 0 0 Q (F0 m 8 ls []) := by
    intro n
    induction n with
    | zero => exact fun _ _ _ _ _ _ _ _ _ hi => it_0 hi
    | succ n ih_8 =>
      intro x4_8 v_at_8 H locs hP hD hS ls hl hi
      obtain ⟨b_8, hsh, hB1_8, hB2_8⟩ := it_b hi
      replace hsh : shX0_readNumber_L8 v_end v_p1_length w_p1_bytes x4_8 v_at_8 = some b_8 := hsh
      unfold shX0_readNumber_L8 at hsh
      refine lv_aload_n hx hb dX0_readNumber_8 rfl (lv_at hl 0 rfl) ?_
      refine kget (ci := 0) S hK hP rfl inX0_readNumber_X0 0 rfl 5 (by decide) lkX0_readNumber_29 rfl dX0_readNumber_9 ?_
      refine lv_aload_n hx hb dX0_readNumber_12 rfl (lv_at hl 0 rfl) ?_
      refine kget (ci := 0) S hK hP rfl inX0_readNumber_X0 0 rfl 6 (by decide) lkX0_readNumber_32 rfl dX0_readNumber_13 ?_
      refine lv_icmp_ge (tgt := 70) hx hb dX0_readNumber_16 (by decide) (fun c1 => ?_) (fun c1 => ?_)
      · skip
        have hsh := ite_t hsh c1
        have he := hB2_8 _ hsh
        rw [← he] at hk_8
        exact Jj_70 v_at x4_8 v_at_8 H locs hP hD hS ls (lv_sub hl [0, 2, 3, 4] rfl) hk_8
      · skip
        have hsh := ite_f hsh c1
        refine lv_aload_n hx hb dX0_readNumber_19 rfl (lv_at hl 1 rfl) ?_
        refine lv_aload_n hx hb dX0_readNumber_20 rfl (lv_at hl 0 rfl) ?_
        refine kget (ci := 0) S hK hP rfl inX0_readNumber_X0 0 rfl 5 (by decide) lkX0_readNumber_29 rfl dX0_readNumber_21 ?_
        obtain ⟨o_24, he, hsh⟩ := bd hsh
        refine kVi (ci := 3) S hK hA (ctX3_at l D cI cJ cZ q_p1 q_p1_bytes v_p1_length w_p1_bytes v_at_8 o_24 he) noE_cl (cwV 1 hts gX0_readNumber_X3_at rfl rfl rfl hdX3_at ⟨Nat.le_of_ble_eq_true rfl, Nat.le_of_ble_eq_true rfl⟩) rfl 0 rfl [2, 3] [0, 1] [0, 1, 2, 3] (ws' := (wdX0_readNumber cI cJ cZ q_this q_p1 q_numbers q_fresh q_told q_p1_bytes v_faultKind v_faultPlace v_at_8 v_end v_p1_length w_fresh w_p1_bytes)) ⟨rfl, rfl, rfl, rfl, rfl, rfl, rfl⟩ trivial rfl hl.1 rfl (Nat.le_of_ble_eq_true rfl) dX0_readNumber_24 hP hD hS (fun H locs hP hD hS => ?_)
        obtain ⟨o_27, he, hsh⟩ := bd hsh
        refine kSi S hK hA (ctX0_isDigit l D cI cJ cZ o_24 o_27 he) noE_cl (va_cwS 1 hts gX0_readNumber_X0_isDigit rfl rfl rfl hdX0_isDigit ⟨Nat.le_of_ble_eq_true rfl, Nat.le_of_ble_eq_true rfl⟩) [] [0, 1, 2, 3] [0, 1, 2, 3] (ws' := (wdX0_readNumber cI cJ cZ q_this q_p1 q_numbers q_fresh q_told q_p1_bytes v_faultKind v_faultPlace v_at_8 v_end v_p1_length w_fresh w_p1_bytes)) ⟨rfl, rfl, rfl, rfl, rfl, rfl, rfl⟩ trivial rfl hl.1 rfl (Nat.le_of_ble_eq_true rfl) dX0_readNumber_27 hP hD hS (fun H locs hP hD hS => ?_)
        refine lv_if_eq (tgt := 70) hx hb dX0_readNumber_30 (by decide) (fun c1 => ?_) (fun c1 => ?_)
        · skip
          have hsh := ite_t hsh c1
          have he := hB2_8 _ hsh
          rw [← he] at hk_8
          exact Jj_70 v_at x4_8 v_at_8 H locs hP hD hS ls (lv_sub hl [0, 2, 3, 4] rfl) hk_8
        · skip
          have hsh := ite_f hsh c1
          refine lv_ldc hx hb hown (v := (100000 : Int32)) (hts _ (List.mem_of_getElem? (i := 3) rfl)) dX0_readNumber_33 ?_
          refine lv_iload hx hb dX0_readNumber_35 (lv_at hl 4 rfl) ?_
          refine lv_bipush (v := (10 : Int32)) hx hb dX0_readNumber_37 (by decide) ?_
          refine lv_imul hx hb dX0_readNumber_39 ?_
          refine lv_aload_n hx hb dX0_readNumber_40 rfl (lv_at hl 1 rfl) ?_
          refine lv_aload_n hx hb dX0_readNumber_41 rfl (lv_at hl 0 rfl) ?_
          refine kget (ci := 0) S hK hP rfl inX0_readNumber_X0 0 rfl 5 (by decide) lkX0_readNumber_29 rfl dX0_readNumber_42 ?_
          obtain ⟨o_45, he, hsh⟩ := bd hsh
          refine kVi (ci := 3) S hK hA (ctX3_at l D cI cJ cZ q_p1 q_p1_bytes v_p1_length w_p1_bytes v_at_8 o_45 he) noE_cl (cwV 1 hts gX0_readNumber_X3_at rfl rfl rfl hdX3_at ⟨Nat.le_of_ble_eq_true rfl, Nat.le_of_ble_eq_true rfl⟩) rfl 0 rfl [2, 3] [0, 1] [0, 1, 2, 3] (ws' := (wdX0_readNumber cI cJ cZ q_this q_p1 q_numbers q_fresh q_told q_p1_bytes v_faultKind v_faultPlace v_at_8 v_end v_p1_length w_fresh w_p1_bytes)) ⟨rfl, rfl, rfl, rfl, rfl, rfl, rfl⟩ trivial rfl hl.1 rfl (Nat.le_of_ble_eq_true rfl) dX0_readNumber_45 hP hD hS (fun H locs hP hD hS => ?_)
          refine lv_iadd hx hb dX0_readNumber_48 ?_
          refine lv_bipush (v := (48 : Int32)) hx hb dX0_readNumber_49 (by decide) ?_
          refine lv_isub hx hb dX0_readNumber_51 ?_
          refine va_mmin hx hb (S.2.2.1.trans hl.1.symm) hown (hts _ (List.mem_of_getElem? (i := 4) rfl)) (hts _ (List.mem_of_getElem? (i := 5) rfl)) (hts _ (List.mem_of_getElem? (i := 6) rfl)) (hts _ (List.mem_of_getElem? (i := 7) rfl)) (Nat.le_of_ble_eq_true rfl) (Nat.le_of_ble_eq_true rfl) (Nat.le_of_ble_eq_true rfl) (Nat.le_of_ble_eq_true rfl) dX0_readNumber_52 ?_
          refine lv_istore (lv' := [(4, .int (if (((x4_8 * (10 : Int32)) + o_45) - (48 : Int32)) < (100000 : Int32) then (((x4_8 * (10 : Int32)) + o_45) - (48 : Int32)) else (100000 : Int32))), (0, .ref q_this), (1, .ref q_p1), (2, .int a2), (3, .int v_at)]) hx hb dX0_readNumber_55 hl (by decide) rfl (fun ls hl => ?_)
          refine lv_aload_n hx hb dX0_readNumber_57 rfl (lv_at hl 1 rfl) ?_
          refine lv_dup hx hb dX0_readNumber_58 rfl ?_
          refine kget (ci := 0) S hK hP rfl inX0_readNumber_X0 0 rfl 5 (by decide) lkX0_readNumber_29 rfl dX0_readNumber_59 ?_
          refine lv_iconst (v := (1 : Int32)) hx hb dX0_readNumber_62 (by decide) ?_
          refine lv_iadd hx hb dX0_readNumber_63 ?_
          refine kput (ci := 0) S hK hP hD hS rfl inX0_readNumber_X0 tyX0_ok nmX0 0 rfl 5 (by decide) lkX0_readNumber_29 rfl rfl rfl (Nat.le_of_ble_eq_true rfl) (ws' := (wdX0_readNumber cI cJ cZ q_this q_p1 q_numbers q_fresh q_told q_p1_bytes v_faultKind v_faultPlace (v_at_8 + (1 : Int32)) v_end v_p1_length w_fresh w_p1_bytes)) rfl dX0_readNumber_64 (fun H locs hP hD hS => ?_)
          refine lv_goto (tgt := 8) hx hb dX0_readNumber_67 (by decide) ?_
          exact ih_8 (if (((x4_8 * (10 : Int32)) + o_45) - (48 : Int32)) < (100000 : Int32) then (((x4_8 * (10 : Int32)) + o_45) - (48 : Int32)) else (100000 : Int32)) (v_at_8 + (1 : Int32)) H locs hP hD hS ls (lv_sub hl [1, 2, 3, 4, 0] rfl) (hB1_8 _ hsh)
  exact L_8 n_8 (0 : Int32) v_at H locs hP hD hS ls (lv_sub hl [2, 3, 4, 1, 0] rfl) hn_8

/-! DryWells$Book.readEnd -/
noncomputable def shX0_readEnd_j_29 (v_faultKind : Int32) (v_faultPlace : Int32) (v_at_j_29 : Int32) : Option (Int32 × Int32 × Int32 × Int32) :=
  ((shX0_fail (1 : Int32) v_at_j_29 v_faultKind v_faultPlace).bind fun o_35 => ((gz o_35.1).bind fun _ => some (o_35.1, o_35.2.1, o_35.2.2, v_at_j_29)))
noncomputable def shX0_readEnd (v_faultKind : Int32) (v_faultPlace : Int32) (v_at : Int32) (v_end : Int32) (v_p1_length : Int32) (w_p1_bytes : Nat → Int32) : Option (Int32 × Int32 × Int32 × Int32) :=
  ((shX0_skipBlanks v_at v_end v_p1_length w_p1_bytes).bind fun o_2 => (if v_end ≤ o_2 then (shX0_readEnd_j_29 v_faultKind v_faultPlace o_2) else ((shX3_at o_2 v_p1_length w_p1_bytes).bind fun o_21 => (if o_21 = (59 : Int32) then some ((1 : Int32), v_faultKind, v_faultPlace, (o_2 + (1 : Int32))) else (shX0_readEnd_j_29 v_faultKind v_faultPlace o_2)))))
def wdX0_readEnd (cI cJ cZ : ClassId) (q_this q_p1 q_numbers q_fresh q_told q_p1_bytes : Nat) (v_faultKind : Int32) (v_faultPlace : Int32) (v_at : Int32) (v_end : Int32) (v_p1_length : Int32) (w_p1_bytes : Nat → Int32) : va_W := [(q_this, .inr (0, [.ref q_numbers, .ref q_fresh, .ref q_told, .int v_faultKind, .int v_faultPlace, .int v_at, .int v_end])), (q_p1, .inr (3, [.ref q_p1_bytes, .int v_p1_length])), (q_p1_bytes, .inl (cI, 200, .inl w_p1_bytes))]
abbrev rmX0_readEnd : Room := { frames := 2, cells := 0, slots := 0, locals := 42 }
theorem inX0_readEnd_X0 : ∀ w ∈ u_ws RX0 TX0 7, w ∈ wsX0_readEnd := fun _ h => List.mem_cons_of_mem _ (List.mem_append_left _ (List.mem_append_right _ h))
theorem inX0_readEnd_X3 : ∀ w ∈ u_ws RX3 TX3 2, w ∈ wsX0_readEnd := fun _ h => List.mem_cons_of_mem _ (List.mem_append_right _ h)
theorem lkX0_readEnd_29 : Cond.fieldLink RX0 29 (TX0 5).1 (TX0 5).2.1 (TX0 5).2.2.1 ∈ wsX0_readEnd := List.mem_of_getElem? (i := 1) rfl
theorem lkX0_readEnd_32 : Cond.fieldLink RX0 32 (TX0 6).1 (TX0 6).2.1 (TX0 6).2.2.1 ∈ wsX0_readEnd := List.mem_of_getElem? (i := 2) rfl
theorem hdX0_readEnd : yX0_readEnd.cls = RX0 ∧ yX0_readEnd.cls ≠ "java/lang/invoke/MethodHandle" ∧ yX0_readEnd.cls ≠ "java/lang/invoke/VarHandle" ∧ (parseMethodDescriptor yX0_readEnd.desc).map (fun d => d.parameters.length) = some 1 := by decide +kernel
set_option maxHeartbeats 4000000 in
set_option maxRecDepth 100000 in
theorem ctX0_readEnd (l : Launch) (D : va_G) (cI cJ cZ : ClassId) (q_this q_p1 q_numbers q_fresh q_told q_p1_bytes : Nat) (v_faultKind : Int32) (v_faultPlace : Int32) (v_at : Int32) (v_end : Int32) (v_p1_length : Int32) (w_p1_bytes : Nat → Int32)  (o : Int32 × Int32 × Int32 × Int32) (hsh : shX0_readEnd v_faultKind v_faultPlace v_at v_end v_p1_length w_p1_bytes = some o) : CtI l yX0_readEnd wsX0_readEnd rmX0_readEnd D (tys3 cI cJ cZ) noE (wdX0_readEnd cI cJ cZ q_this q_p1 q_numbers q_fresh q_told q_p1_bytes v_faultKind v_faultPlace v_at v_end v_p1_length w_p1_bytes) [.ref q_this, .ref q_p1] o.1 (wdX0_readEnd cI cJ cZ q_this q_p1 q_numbers q_fresh q_told q_p1_bytes o.2.1 o.2.2.1 o.2.2.2 v_end v_p1_length w_p1_bytes) := by
  refine ctZ plX0 rfl (Nat.le_of_ble_eq_true rfl) ?_
  intro p e s m below meth c A Q S hK hA hE hret H locs hP hD hS ls hl
  replace S : CallFix p m c cX0_readEnd 2 s _ wsX0_readEnd RX0 := S
  generalize ([.ref q_this, .ref q_p1] : List Value).toArray = args at S hret ⊢
  obtain ⟨hx, hb, hml, hown, hts⟩ := id S
  replace hl : lv_has ls 2 [(0, .ref q_this), (1, .ref q_p1)] := hl
  unfold shX0_readEnd at hsh
  have Jj_29 : ∀ (v_at_j_29 : Int32) (H : Heap) (locs : List Loc), va_P D vwCl (wdX0_readEnd cI cJ cZ q_this q_p1 q_numbers q_fresh q_told q_p1_bytes v_faultKind v_faultPlace v_at_j_29 v_end v_p1_length w_p1_bytes) H → va_D A (wdX0_readEnd cI cJ cZ q_this q_p1 q_numbers q_fresh q_told q_p1_bytes v_faultKind v_faultPlace v_at_j_29 v_end v_p1_length w_p1_bytes) → va_S A s.heap H locs → ∀ ls : Array Slot, lv_has ls 2 [(0, .ref q_this)] → shX0_readEnd_j_29 v_faultKind v_faultPlace v_at_j_29 = some o → W p l e rmX0_readEnd s m args below meth c H locs 0 0 Q (F0 m 29 ls []) := by
    intro v_at_j_29 H locs hP hD hS ls hl hsh
    unfold shX0_readEnd_j_29 at hsh
    refine lv_aload_n hx hb dX0_readEnd_29 rfl (lv_at hl 0 rfl) ?_
    refine lv_iconst (v := (1 : Int32)) hx hb dX0_readEnd_30 (by decide) ?_
    refine lv_aload_n hx hb dX0_readEnd_31 rfl (lv_at hl 0 rfl) ?_
    refine kget (ci := 0) S hK hP rfl inX0_readEnd_X0 0 rfl 5 (by decide) lkX0_readEnd_29 rfl dX0_readEnd_32 ?_
    obtain ⟨o_35, he, hsh⟩ := bd hsh
    refine kVi (ci := 0) S hK hA (ctX0_fail l D cI cJ cZ q_this q_numbers q_fresh q_told v_faultKind v_faultPlace v_at_j_29 v_end (1 : Int32) v_at_j_29 o_35 he) noE_cl (cwV 2 hts gX0_readEnd_X0_fail rfl rfl rfl hdX0_fail ⟨Nat.le_of_ble_eq_true rfl, Nat.le_of_ble_eq_true rfl⟩) rfl 0 rfl [0] [1, 2] [2, 0, 1] (ws' := (wdX0_readEnd cI cJ cZ q_this q_p1 q_numbers q_fresh q_told q_p1_bytes o_35.2.1 o_35.2.2 v_at_j_29 v_end v_p1_length w_p1_bytes)) ⟨rfl, rfl, rfl, rfl, rfl, rfl, rfl⟩ trivial rfl hl.1 rfl (Nat.le_of_ble_eq_true rfl) dX0_readEnd_35 hP hD hS (fun H locs hP hD hS => ?_)
    obtain ⟨_, hz, hsh⟩ := bd hsh
    have ho := Option.some.inj hsh
    rw [← ho] at hret
    exact hret _ _ _ _ (gz_nar hz) dX0_readEnd_38 hP hD hS
  refine lv_aload_n hx hb dX0_readEnd_0 rfl (lv_at hl 0 rfl) ?_
  refine lv_aload_n hx hb dX0_readEnd_1 rfl (lv_at hl 1 rfl) ?_
  obtain ⟨o_2, he, hsh⟩ := bd hsh
  refine kVv (ci := 0) S hK hA (ctX0_skipBlanks l D cI cJ cZ q_this q_p1 q_numbers q_fresh q_told q_p1_bytes v_faultKind v_faultPlace v_at v_end v_p1_length w_p1_bytes o_2 he) noE_cl (cwV 1 hts gX0_readEnd_X0_skipBlanks rfl rfl rfl hdX0_skipBlanks ⟨Nat.le_of_ble_eq_true rfl, Nat.le_of_ble_eq_true rfl⟩) rfl 0 rfl [0, 1, 2] [] [0, 1, 2] (ws' := (wdX0_readEnd cI cJ cZ q_this q_p1 q_numbers q_fresh q_told q_p1_bytes v_faultKind v_faultPlace o_2 v_end v_p1_length w_p1_bytes)) ⟨rfl, rfl, rfl, rfl, rfl, rfl, rfl⟩ trivial rfl hl.1 rfl (Nat.le_of_ble_eq_true rfl) dX0_readEnd_2 hP hD hS (fun H locs hP hD hS => ?_)
  refine lv_aload_n hx hb dX0_readEnd_5 rfl (lv_at hl 0 rfl) ?_
  refine kget (ci := 0) S hK hP rfl inX0_readEnd_X0 0 rfl 5 (by decide) lkX0_readEnd_29 rfl dX0_readEnd_6 ?_
  refine lv_aload_n hx hb dX0_readEnd_9 rfl (lv_at hl 0 rfl) ?_
  refine kget (ci := 0) S hK hP rfl inX0_readEnd_X0 0 rfl 6 (by decide) lkX0_readEnd_32 rfl dX0_readEnd_10 ?_
  refine lv_icmp_ge (tgt := 29) hx hb dX0_readEnd_13 (by decide) (fun c1 => ?_) (fun c1 => ?_)
  · skip
    have hsh := ite_t hsh c1
    exact Jj_29 o_2 H locs hP hD hS ls (lv_sub hl [0] rfl) hsh
  · skip
    have hsh := ite_f hsh c1
    refine lv_aload_n hx hb dX0_readEnd_16 rfl (lv_at hl 1 rfl) ?_
    refine lv_aload_n hx hb dX0_readEnd_17 rfl (lv_at hl 0 rfl) ?_
    refine kget (ci := 0) S hK hP rfl inX0_readEnd_X0 0 rfl 5 (by decide) lkX0_readEnd_29 rfl dX0_readEnd_18 ?_
    obtain ⟨o_21, he, hsh⟩ := bd hsh
    refine kVi (ci := 3) S hK hA (ctX3_at l D cI cJ cZ q_p1 q_p1_bytes v_p1_length w_p1_bytes o_2 o_21 he) noE_cl (cwV 1 hts gX0_readEnd_X3_at rfl rfl rfl hdX3_at ⟨Nat.le_of_ble_eq_true rfl, Nat.le_of_ble_eq_true rfl⟩) rfl 0 rfl [1, 2] [0] [0, 1, 2] (ws' := (wdX0_readEnd cI cJ cZ q_this q_p1 q_numbers q_fresh q_told q_p1_bytes v_faultKind v_faultPlace o_2 v_end v_p1_length w_p1_bytes)) ⟨rfl, rfl, rfl, rfl, rfl, rfl, rfl⟩ trivial rfl hl.1 rfl (Nat.le_of_ble_eq_true rfl) dX0_readEnd_21 hP hD hS (fun H locs hP hD hS => ?_)
    refine lv_bipush (v := (59 : Int32)) hx hb dX0_readEnd_24 (by decide) ?_
    refine lv_icmp_eq (tgt := 39) hx hb dX0_readEnd_26 (by decide) (fun c1 => ?_) (fun c1 => ?_)
    · skip
      have hsh := ite_t hsh c1
      refine lv_aload_n hx hb dX0_readEnd_39 rfl (lv_at hl 0 rfl) ?_
      refine lv_dup hx hb dX0_readEnd_40 rfl ?_
      refine kget (ci := 0) S hK hP rfl inX0_readEnd_X0 0 rfl 5 (by decide) lkX0_readEnd_29 rfl dX0_readEnd_41 ?_
      refine lv_iconst (v := (1 : Int32)) hx hb dX0_readEnd_44 (by decide) ?_
      refine lv_iadd hx hb dX0_readEnd_45 ?_
      refine kput (ci := 0) S hK hP hD hS rfl inX0_readEnd_X0 tyX0_ok nmX0 0 rfl 5 (by decide) lkX0_readEnd_29 rfl rfl rfl (Nat.le_of_ble_eq_true rfl) (ws' := (wdX0_readEnd cI cJ cZ q_this q_p1 q_numbers q_fresh q_told q_p1_bytes v_faultKind v_faultPlace (o_2 + (1 : Int32)) v_end v_p1_length w_p1_bytes)) rfl dX0_readEnd_46 (fun H locs hP hD hS => ?_)
      refine lv_iconst (v := (1 : Int32)) hx hb dX0_readEnd_49 (by decide) ?_
      have ho := Option.some.inj hsh
      rw [← ho] at hret
      exact hret _ _ _ _ nar1 dX0_readEnd_50 hP hD hS
    · skip
      have hsh := ite_f hsh c1
      exact Jj_29 o_2 H locs hP hD hS ls (lv_sub hl [0] rfl) hsh

/-! DryWells$Book.readLine -/
noncomputable def shX0_readLine (v_faultKind : Int32) (v_faultPlace : Int32) (v_at : Int32) (v_end : Int32) (w_fresh : Nat → Int32) (w_told : Nat → Int32) (v_p1_length : Int32) (w_p1_bytes : Nat → Int32) : Option (Int32 × Int32 × Int32 × Int32 × (Nat → Int32) × (Nat → Int32)) :=
  ((shX0_readWord v_at v_end v_p1_length w_p1_bytes).bind fun o_7 => (if ¬ o_7.1 = (-1 : Int32) then ((gd o_7.1 3).bind fun _ => (if (w_told (o_7.1).toNatClampNeg) = 0 then ((gd o_7.1 3).bind fun _ => ((shX0_skipBlanks o_7.2 v_end v_p1_length w_p1_bytes).bind fun o_48 => ((shX0_readNumber o_7.1 v_faultKind v_faultPlace o_48 v_end w_fresh v_p1_length w_p1_bytes).bind fun o_54 => (if o_54.1 = 0 then some ((0 : Int32), o_54.2.1, o_54.2.2.1, o_54.2.2.2.1, o_54.2.2.2.2, (upd w_told (o_7.1).toNatClampNeg (vp_nar .boolean (1 : Int32)))) else ((shX0_readEnd o_54.2.1 o_54.2.2.1 o_54.2.2.2.1 v_end v_p1_length w_p1_bytes).bind fun o_62 => (if o_62.1 = 0 then some ((0 : Int32), o_62.2.1, o_62.2.2.1, o_62.2.2.2, o_54.2.2.2.2, (upd w_told (o_7.1).toNatClampNeg (vp_nar .boolean (1 : Int32)))) else some ((1 : Int32), o_62.2.1, o_62.2.2.1, o_62.2.2.2, o_54.2.2.2.2, (upd w_told (o_7.1).toNatClampNeg (vp_nar .boolean (1 : Int32)))))))))) else ((shX0_fail (3 : Int32) v_at v_faultKind v_faultPlace).bind fun o_35 => ((gz o_35.1).bind fun _ => some (o_35.1, o_35.2.1, o_35.2.2, o_7.2, w_fresh, w_told))))) else ((shX0_fail (1 : Int32) v_at v_faultKind v_faultPlace).bind fun o_19 => ((gz o_19.1).bind fun _ => some (o_19.1, o_19.2.1, o_19.2.2, o_7.2, w_fresh, w_told)))))
def wdX0_readLine (cI cJ cZ : ClassId) (q_this q_p1 q_numbers q_fresh q_told q_p1_bytes : Nat) (v_faultKind : Int32) (v_faultPlace : Int32) (v_at : Int32) (v_end : Int32) (v_p1_length : Int32) (w_fresh : Nat → Int32) (w_told : Nat → Int32) (w_p1_bytes : Nat → Int32) : va_W := [(q_this, .inr (0, [.ref q_numbers, .ref q_fresh, .ref q_told, .int v_faultKind, .int v_faultPlace, .int v_at, .int v_end])), (q_fresh, .inl (cI, 3, .inl w_fresh)), (q_told, .inl (cZ, 3, .inl w_told)), (q_p1, .inr (3, [.ref q_p1_bytes, .int v_p1_length])), (q_p1_bytes, .inl (cI, 200, .inl w_p1_bytes))]
abbrev rmX0_readLine : Room := { frames := 6, cells := 0, slots := 0, locals := 131 }
theorem inX0_readLine_X0 : ∀ w ∈ u_ws RX0 TX0 7, w ∈ wsX0_readLine := fun _ h => List.mem_cons_of_mem _ (List.mem_append_left _ (List.mem_append_right _ h))
theorem inX0_readLine_X3 : ∀ w ∈ u_ws RX3 TX3 2, w ∈ wsX0_readLine := fun _ h => List.mem_cons_of_mem _ (List.mem_append_right _ h)
theorem lkX0_readLine_29 : Cond.fieldLink RX0 29 (TX0 5).1 (TX0 5).2.1 (TX0 5).2.2.1 ∈ wsX0_readLine := List.mem_of_getElem? (i := 1) rfl
theorem lkX0_readLine_18 : Cond.fieldLink RX0 18 (TX0 2).1 (TX0 2).2.1 (TX0 2).2.2.1 ∈ wsX0_readLine := List.mem_of_getElem? (i := 2) rfl
theorem hdX0_readLine : yX0_readLine.cls = RX0 ∧ yX0_readLine.cls ≠ "java/lang/invoke/MethodHandle" ∧ yX0_readLine.cls ≠ "java/lang/invoke/VarHandle" ∧ (parseMethodDescriptor yX0_readLine.desc).map (fun d => d.parameters.length) = some 1 := by decide +kernel
set_option maxHeartbeats 4000000 in
set_option maxRecDepth 100000 in
theorem ctX0_readLine (l : Launch) (D : va_G) (cI cJ cZ : ClassId) (tL tM tU : Nat) (adK adV : Nat → Nat) (q_this q_p1 q_numbers q_fresh q_told q_p1_bytes : Nat) (v_faultKind : Int32) (v_faultPlace : Int32) (v_at : Int32) (v_end : Int32) (v_p1_length : Int32) (w_fresh : Nat → Int32) (w_told : Nat → Int32) (w_p1_bytes : Nat → Int32)  (o : Int32 × Int32 × Int32 × Int32 × (Nat → Int32) × (Nat → Int32)) (hsh : shX0_readLine v_faultKind v_faultPlace v_at v_end w_fresh w_told v_p1_length w_p1_bytes = some o) : CtI l yX0_readLine wsX0_readLine rmX0_readLine D (tys3 cI cJ cZ) (En tL tM tU adK adV) (wdX0_readLine cI cJ cZ q_this q_p1 q_numbers q_fresh q_told q_p1_bytes v_faultKind v_faultPlace v_at v_end v_p1_length w_fresh w_told w_p1_bytes) [.ref q_this, .ref q_p1] o.1 (wdX0_readLine cI cJ cZ q_this q_p1 q_numbers q_fresh q_told q_p1_bytes o.2.1 o.2.2.1 o.2.2.2.1 v_end v_p1_length o.2.2.2.2.1 o.2.2.2.2.2 w_p1_bytes) := by
  refine ctZ plX0 rfl (Nat.le_of_ble_eq_true rfl) ?_
  intro p e s m below meth c A Q S hK hA hE hret H locs hP hD hS ls hl
  replace S : CallFix p m c cX0_readLine 4 s _ wsX0_readLine RX0 := S
  generalize ([.ref q_this, .ref q_p1] : List Value).toArray = args at S hret ⊢
  obtain ⟨hx, hb, hml, hown, hts⟩ := id S
  replace hl : lv_has ls 4 [(0, .ref q_this), (1, .ref q_p1)] := hl
  unfold shX0_readLine at hsh
  refine lv_aload_n hx hb dX0_readLine_0 rfl (lv_at hl 0 rfl) ?_
  refine kget (ci := 0) S hK hP rfl inX0_readLine_X0 0 rfl 5 (by decide) lkX0_readLine_29 rfl dX0_readLine_1 ?_
  refine lv_istore_n (lv' := [(2, .int v_at), (0, .ref q_this), (1, .ref q_p1)]) hx hb dX0_readLine_4 rfl hl (by decide) rfl (fun ls hl => ?_)
  refine lv_aload_n hx hb dX0_readLine_5 rfl (lv_at hl 1 rfl) ?_
  refine lv_aload_n hx hb dX0_readLine_6 rfl (lv_at hl 2 rfl) ?_
  obtain ⟨o_7, he, hsh⟩ := bd hsh
  refine kVi (ci := 0) S hK hA (ctX0_readWord l D cI cJ cZ tL tM tU adK adV q_this q_p1 q_numbers q_fresh q_told q_p1_bytes v_faultKind v_faultPlace v_at v_end v_p1_length w_p1_bytes o_7 he) En_cl (cwV 1 hts gX0_readLine_X0_readWord rfl rfl rfl hdX0_readWord ⟨Nat.le_of_ble_eq_true rfl, Nat.le_of_ble_eq_true rfl⟩) rfl 0 rfl [0, 3, 4] [1, 2] [2, 0, 1, 3, 4] (ws' := (wdX0_readLine cI cJ cZ q_this q_p1 q_numbers q_fresh q_told q_p1_bytes v_faultKind v_faultPlace o_7.2 v_end v_p1_length w_fresh w_told w_p1_bytes)) ⟨rfl, rfl, rfl, rfl, rfl, rfl, rfl⟩ hE rfl hl.1 rfl (Nat.le_of_ble_eq_true rfl) dX0_readLine_7 hP hD hS (fun H locs hP hD hS => ?_)
  refine lv_istore_n (lv' := [(3, .int o_7.1), (2, .int v_at), (0, .ref q_this), (1, .ref q_p1)]) hx hb dX0_readLine_10 rfl hl (by decide) rfl (fun ls hl => ?_)
  refine lv_iload_n hx hb dX0_readLine_11 rfl (lv_at hl 0 rfl) ?_
  refine lv_iconst (v := (-1 : Int32)) hx hb dX0_readLine_12 (by decide) ?_
  refine lv_icmp_ne (tgt := 23) hx hb dX0_readLine_13 (by decide) (fun c1 => ?_) (fun c1 => ?_)
  · skip
    have hsh := ite_t hsh c1
    refine lv_aload_n hx hb dX0_readLine_23 rfl (lv_at hl 2 rfl) ?_
    refine kget (ci := 0) S hK hP rfl inX0_readLine_X0 0 rfl 2 (by decide) lkX0_readLine_18 rfl dX0_readLine_24 ?_
    refine lv_iload_n hx hb dX0_readLine_27 rfl (lv_at hl 0 rfl) ?_
    obtain ⟨_, hg, hsh⟩ := bd hsh
    refine kzal S hK hP 2 2 rfl rfl (gd_in hg) dX0_readLine_28 ?_
    refine lv_if_eq (tgt := 39) hx hb dX0_readLine_29 (by decide) (fun c1 => ?_) (fun c1 => ?_)
    · skip
      have hsh := ite_t hsh c1
      refine lv_aload_n hx hb dX0_readLine_39 rfl (lv_at hl 2 rfl) ?_
      refine kget (ci := 0) S hK hP rfl inX0_readLine_X0 0 rfl 2 (by decide) lkX0_readLine_18 rfl dX0_readLine_40 ?_
      refine lv_iload_n hx hb dX0_readLine_43 rfl (lv_at hl 0 rfl) ?_
      refine lv_iconst (v := (1 : Int32)) hx hb dX0_readLine_44 (by decide) ?_
      obtain ⟨_, hg, hsh⟩ := bd hsh
      refine kzas S hK hP hD hS 2 2 rfl rfl (gd_in hg) (ws' := (wdX0_readLine cI cJ cZ q_this q_p1 q_numbers q_fresh q_told q_p1_bytes v_faultKind v_faultPlace o_7.2 v_end v_p1_length w_fresh (upd w_told (o_7.1).toNatClampNeg (vp_nar .boolean (1 : Int32))) w_p1_bytes)) rfl dX0_readLine_45 (fun H locs hP hD hS => ?_)
      refine lv_aload_n hx hb dX0_readLine_46 rfl (lv_at hl 2 rfl) ?_
      refine lv_aload_n hx hb dX0_readLine_47 rfl (lv_at hl 3 rfl) ?_
      obtain ⟨o_48, he, hsh⟩ := bd hsh
      refine kVv (ci := 0) S hK hA (ctX0_skipBlanks l D cI cJ cZ q_this q_p1 q_numbers q_fresh q_told q_p1_bytes v_faultKind v_faultPlace o_7.2 v_end v_p1_length w_p1_bytes o_48 he) noE_cl (cwV 1 hts gX0_readLine_X0_skipBlanks rfl rfl rfl hdX0_skipBlanks ⟨Nat.le_of_ble_eq_true rfl, Nat.le_of_ble_eq_true rfl⟩) rfl 0 rfl [0, 3, 4] [1, 2] [2, 0, 1, 3, 4] (ws' := (wdX0_readLine cI cJ cZ q_this q_p1 q_numbers q_fresh q_told q_p1_bytes v_faultKind v_faultPlace o_48 v_end v_p1_length w_fresh (upd w_told (o_7.1).toNatClampNeg (vp_nar .boolean (1 : Int32))) w_p1_bytes)) ⟨rfl, rfl, rfl, rfl, rfl, rfl, rfl⟩ trivial rfl hl.1 rfl (Nat.le_of_ble_eq_true rfl) dX0_readLine_48 hP hD hS (fun H locs hP hD hS => ?_)
      refine lv_aload_n hx hb dX0_readLine_51 rfl (lv_at hl 2 rfl) ?_
      refine lv_aload_n hx hb dX0_readLine_52 rfl (lv_at hl 3 rfl) ?_
      refine lv_iload_n hx hb dX0_readLine_53 rfl (lv_at hl 0 rfl) ?_
      obtain ⟨o_54, he, hsh⟩ := bd hsh
      refine kVi (ci := 0) S hK hA (ctX0_readNumber l D cI cJ cZ tL tM tU adK adV q_this q_p1 q_numbers q_fresh q_told q_p1_bytes v_faultKind v_faultPlace o_48 v_end v_p1_length w_fresh w_p1_bytes o_7.1 o_54 he) En_cl (cwV 2 hts gX0_readLine_X0_readNumber rfl rfl rfl hdX0_readNumber ⟨Nat.le_of_ble_eq_true rfl, Nat.le_of_ble_eq_true rfl⟩) rfl 0 rfl [0, 1, 3, 4] [2] [1, 2, 0, 3, 4] (ws' := (wdX0_readLine cI cJ cZ q_this q_p1 q_numbers q_fresh q_told q_p1_bytes o_54.2.1 o_54.2.2.1 o_54.2.2.2.1 v_end v_p1_length o_54.2.2.2.2 (upd w_told (o_7.1).toNatClampNeg (vp_nar .boolean (1 : Int32))) w_p1_bytes)) ⟨rfl, rfl, rfl, rfl, rfl, rfl, rfl⟩ hE rfl hl.1 rfl (Nat.le_of_ble_eq_true rfl) dX0_readLine_54 hP hD hS (fun H locs hP hD hS => ?_)
      refine lv_if_eq (tgt := 72) hx hb dX0_readLine_57 (by decide) (fun c1 => ?_) (fun c1 => ?_)
      · skip
        have hsh := ite_t hsh c1
        refine lv_iconst (v := (0 : Int32)) hx hb dX0_readLine_72 (by decide) ?_
        have ho := Option.some.inj hsh
        rw [← ho] at hret
        exact hret _ _ _ _ nar0 dX0_readLine_73 hP hD hS
      · skip
        have hsh := ite_f hsh c1
        refine lv_aload_n hx hb dX0_readLine_60 rfl (lv_at hl 2 rfl) ?_
        refine lv_aload_n hx hb dX0_readLine_61 rfl (lv_at hl 3 rfl) ?_
        obtain ⟨o_62, he, hsh⟩ := bd hsh
        refine kVi (ci := 0) S hK hA (ctX0_readEnd l D cI cJ cZ q_this q_p1 q_numbers q_fresh q_told q_p1_bytes o_54.2.1 o_54.2.2.1 o_54.2.2.2.1 v_end v_p1_length w_p1_bytes o_62 he) noE_cl (cwV 1 hts gX0_readLine_X0_readEnd rfl rfl rfl hdX0_readEnd ⟨Nat.le_of_ble_eq_true rfl, Nat.le_of_ble_eq_true rfl⟩) rfl 0 rfl [0, 3, 4] [1, 2] [2, 0, 1, 3, 4] (ws' := (wdX0_readLine cI cJ cZ q_this q_p1 q_numbers q_fresh q_told q_p1_bytes o_62.2.1 o_62.2.2.1 o_62.2.2.2 v_end v_p1_length o_54.2.2.2.2 (upd w_told (o_7.1).toNatClampNeg (vp_nar .boolean (1 : Int32))) w_p1_bytes)) ⟨rfl, rfl, rfl, rfl, rfl, rfl, rfl⟩ trivial rfl hl.1 rfl (Nat.le_of_ble_eq_true rfl) dX0_readLine_62 hP hD hS (fun H locs hP hD hS => ?_)
        refine lv_if_eq (tgt := 72) hx hb dX0_readLine_65 (by decide) (fun c1 => ?_) (fun c1 => ?_)
        · skip
          have hsh := ite_t hsh c1
          refine lv_iconst (v := (0 : Int32)) hx hb dX0_readLine_72 (by decide) ?_
          have ho := Option.some.inj hsh
          rw [← ho] at hret
          exact hret _ _ _ _ nar0 dX0_readLine_73 hP hD hS
        · skip
          have hsh := ite_f hsh c1
          refine lv_iconst (v := (1 : Int32)) hx hb dX0_readLine_68 (by decide) ?_
          refine lv_goto (tgt := 73) hx hb dX0_readLine_69 (by decide) ?_
          have ho := Option.some.inj hsh
          rw [← ho] at hret
          exact hret _ _ _ _ nar1 dX0_readLine_73 hP hD hS
    · skip
      have hsh := ite_f hsh c1
      refine lv_aload_n hx hb dX0_readLine_32 rfl (lv_at hl 2 rfl) ?_
      refine lv_iconst (v := (3 : Int32)) hx hb dX0_readLine_33 (by decide) ?_
      refine lv_iload_n hx hb dX0_readLine_34 rfl (lv_at hl 1 rfl) ?_
      obtain ⟨o_35, he, hsh⟩ := bd hsh
      refine kVi (ci := 0) S hK hA (ctX0_fail l D cI cJ cZ q_this q_numbers q_fresh q_told v_faultKind v_faultPlace o_7.2 v_end (3 : Int32) v_at o_35 he) noE_cl (cwV 2 hts gX0_readLine_X0_fail rfl rfl rfl hdX0_fail ⟨Nat.le_of_ble_eq_true rfl, Nat.le_of_ble_eq_true rfl⟩) rfl 0 rfl [0] [1, 2, 3, 4] [4, 0, 1, 2, 3] (ws' := (wdX0_readLine cI cJ cZ q_this q_p1 q_numbers q_fresh q_told q_p1_bytes o_35.2.1 o_35.2.2 o_7.2 v_end v_p1_length w_fresh w_told w_p1_bytes)) ⟨rfl, rfl, rfl, rfl, rfl, rfl, rfl⟩ trivial rfl hl.1 rfl (Nat.le_of_ble_eq_true rfl) dX0_readLine_35 hP hD hS (fun H locs hP hD hS => ?_)
      obtain ⟨_, hz, hsh⟩ := bd hsh
      have ho := Option.some.inj hsh
      rw [← ho] at hret
      exact hret _ _ _ _ (gz_nar hz) dX0_readLine_38 hP hD hS
  · skip
    have hsh := ite_f hsh (fun h => h c1)
    refine lv_aload_n hx hb dX0_readLine_16 rfl (lv_at hl 2 rfl) ?_
    refine lv_iconst (v := (1 : Int32)) hx hb dX0_readLine_17 (by decide) ?_
    refine lv_iload_n hx hb dX0_readLine_18 rfl (lv_at hl 1 rfl) ?_
    obtain ⟨o_19, he, hsh⟩ := bd hsh
    refine kVi (ci := 0) S hK hA (ctX0_fail l D cI cJ cZ q_this q_numbers q_fresh q_told v_faultKind v_faultPlace o_7.2 v_end (1 : Int32) v_at o_19 he) noE_cl (cwV 2 hts gX0_readLine_X0_fail rfl rfl rfl hdX0_fail ⟨Nat.le_of_ble_eq_true rfl, Nat.le_of_ble_eq_true rfl⟩) rfl 0 rfl [0] [1, 2, 3, 4] [4, 0, 1, 2, 3] (ws' := (wdX0_readLine cI cJ cZ q_this q_p1 q_numbers q_fresh q_told q_p1_bytes o_19.2.1 o_19.2.2 o_7.2 v_end v_p1_length w_fresh w_told w_p1_bytes)) ⟨rfl, rfl, rfl, rfl, rfl, rfl, rfl⟩ trivial rfl hl.1 rfl (Nat.le_of_ble_eq_true rfl) dX0_readLine_19 hP hD hS (fun H locs hP hD hS => ?_)
    obtain ⟨_, hz, hsh⟩ := bd hsh
    have ho := Option.some.inj hsh
    rw [← ho] at hret
    exact hret _ _ _ _ (gz_nar hz) dX0_readLine_22 hP hD hS

/-! DryWells$Book.read -/
noncomputable def shX0_read_j_36 (w_numbers : Nat → Int32) (v_faultKind_j_36 : Int32) (v_faultPlace_j_36 : Int32) (v_at_j_36 : Int32) (v_end_j_36 : Int32) (w_fresh_j_36 : Nat → Int32) (w_told_j_36 : Nat → Int32) : Option (Int32 × Int32 × Int32 × Int32 × Int32 × (Nat → Int32) × (Nat → Int32) × (Nat → Int32)) :=
  some ((-1 : Int32), v_faultKind_j_36, v_faultPlace_j_36, v_at_j_36, v_end_j_36, w_numbers, w_fresh_j_36, w_told_j_36)
noncomputable def shX0_read_j_78 (x3_j_78 : Int32) (v_faultKind_j_78 : Int32) (v_faultPlace_j_78 : Int32) (v_at_j_78 : Int32) (v_end_j_78 : Int32) (w_numbers_j_78 : Nat → Int32) (w_fresh_j_78 : Nat → Int32) (w_told_j_78 : Nat → Int32) : Option (Int32 × Int32 × Int32 × Int32 × Int32 × (Nat → Int32) × (Nat → Int32) × (Nat → Int32)) :=
  some (x3_j_78, v_faultKind_j_78, v_faultPlace_j_78, v_at_j_78, v_end_j_78, w_numbers_j_78, w_fresh_j_78, w_told_j_78)
noncomputable def shX0_read_L52 (w_fresh_j_49 : Nat → Int32) (x4_52 : Int32) (w_numbers_52 : Nat → Int32) : Option ((Int32 × (Nat → Int32)) ⊕ (((Nat → Int32)))) :=
  (if (3 : Int32) ≤ x4_52 then some (Sum.inr w_numbers_52) else ((gd x4_52 3).bind fun _ => ((gd x4_52 3).bind fun _ => some (Sum.inl ((x4_52 + (1 : Int32)), (upd w_numbers_52 (x4_52).toNatClampNeg (w_fresh_j_49 (x4_52).toNatClampNeg)))))))
noncomputable def shX0_read_j_49 (w_numbers : Nat → Int32) (x3_j_49 : Int32) (v_faultKind_j_49 : Int32) (v_faultPlace_j_49 : Int32) (v_at_j_49 : Int32) (v_end_j_49 : Int32) (w_fresh_j_49 : Nat → Int32) (w_told_j_49 : Nat → Int32) : Option (Int32 × Int32 × Int32 × Int32 × Int32 × (Nat → Int32) × (Nat → Int32) × (Nat → Int32)) :=
  ((lp (fun s : Int32 × (Nat → Int32) => shX0_read_L52 w_fresh_j_49 s.1 s.2) ((0 : Int32), w_numbers)).bind (fun p : (Nat → Int32) => shX0_read_j_78 x3_j_49 v_faultKind_j_49 v_faultPlace_j_49 v_at_j_49 v_end_j_49 p w_fresh_j_49 w_told_j_49))
noncomputable def shX0_read_L12 (v_p1_length : Int32) (w_p1_bytes : Nat → Int32) (o_2 : Int32 × Int32 × Int32 × Int32 × (Nat → Int32) × (Nat → Int32)) (x3_12 : Int32) (v_faultKind_12 : Int32) (v_faultPlace_12 : Int32) (v_at_12 : Int32) (w_fresh_12 : Nat → Int32) (w_told_12 : Nat → Int32) : Option ((Int32 × Int32 × Int32 × Int32 × (Nat → Int32) × (Nat → Int32)) ⊕ ((Int32 × Int32 × Int32 × (Nat → Int32) × (Nat → Int32)) ⊕ (Int32 × Int32 × Int32 × Int32 × (Nat → Int32) × (Nat → Int32)))) :=
  (if o_2.2.2.2.1 ≤ v_at_12 then some (Sum.inr (Sum.inr (x3_12, v_faultKind_12, v_faultPlace_12, v_at_12, w_fresh_12, w_told_12))) else (if (3 : Int32) < x3_12 then some (Sum.inr (Sum.inr (x3_12, v_faultKind_12, v_faultPlace_12, v_at_12, w_fresh_12, w_told_12))) else ((shX0_readLine v_faultKind_12 v_faultPlace_12 v_at_12 o_2.2.2.2.1 w_fresh_12 w_told_12 v_p1_length w_p1_bytes).bind fun o_30 => (if ¬ o_30.1 = 0 then ((shX0_skipBlanks o_30.2.2.2.1 o_2.2.2.2.1 v_p1_length w_p1_bytes).bind fun o_43 => some (Sum.inl ((x3_12 + (1 : Int32)), o_30.2.1, o_30.2.2.1, o_43, o_30.2.2.2.2.1, o_30.2.2.2.2.2))) else some (Sum.inr (Sum.inl (o_30.2.1, o_30.2.2.1, o_30.2.2.2.1, o_30.2.2.2.2.1, o_30.2.2.2.2.2)))))))
noncomputable def shX0_read (a2 : Int32) (v_faultKind : Int32) (v_faultPlace : Int32) (v_at : Int32) (v_end : Int32) (w_numbers : Nat → Int32) (w_fresh : Nat → Int32) (w_told : Nat → Int32) (v_p1_length : Int32) (w_p1_bytes : Nat → Int32) : Option (Int32 × Int32 × Int32 × Int32 × Int32 × (Nat → Int32) × (Nat → Int32) × (Nat → Int32)) :=
  ((shX0_begin a2 v_faultKind v_faultPlace v_at v_end w_fresh w_told).bind fun o_2 => ((shX0_skipBlanks o_2.2.2.1 o_2.2.2.2.1 v_p1_length w_p1_bytes).bind fun o_9 => ((lp (fun s : Int32 × Int32 × Int32 × Int32 × (Nat → Int32) × (Nat → Int32) => shX0_read_L12 v_p1_length w_p1_bytes o_2 s.1 s.2.1 s.2.2.1 s.2.2.2.1 s.2.2.2.2.1 s.2.2.2.2.2) ((0 : Int32), o_2.1, o_2.2.1, o_9, o_2.2.2.2.2.1, o_2.2.2.2.2.2)).bind (Sum.elim (fun p : Int32 × Int32 × Int32 × (Nat → Int32) × (Nat → Int32) => shX0_read_j_36 w_numbers p.1 p.2.1 p.2.2.1 o_2.2.2.2.1 p.2.2.2.1 p.2.2.2.2) (fun p : Int32 × Int32 × Int32 × Int32 × (Nat → Int32) × (Nat → Int32) => shX0_read_j_49 w_numbers p.1 p.2.1 p.2.2.1 p.2.2.2.1 o_2.2.2.2.1 p.2.2.2.2.1 p.2.2.2.2.2)))))
def wdX0_read (cI cJ cZ : ClassId) (q_this q_p1 q_numbers q_fresh q_told q_p1_bytes : Nat) (v_faultKind : Int32) (v_faultPlace : Int32) (v_at : Int32) (v_end : Int32) (v_p1_length : Int32) (w_numbers : Nat → Int32) (w_fresh : Nat → Int32) (w_told : Nat → Int32) (w_p1_bytes : Nat → Int32) : va_W := [(q_this, .inr (0, [.ref q_numbers, .ref q_fresh, .ref q_told, .int v_faultKind, .int v_faultPlace, .int v_at, .int v_end])), (q_numbers, .inl (cI, 3, .inl w_numbers)), (q_fresh, .inl (cI, 3, .inl w_fresh)), (q_told, .inl (cZ, 3, .inl w_told)), (q_p1, .inr (3, [.ref q_p1_bytes, .int v_p1_length])), (q_p1_bytes, .inl (cI, 200, .inl w_p1_bytes))]
abbrev rmX0_read : Room := { frames := 7, cells := 0, slots := 0, locals := 154 }
theorem inX0_read_X0 : ∀ w ∈ u_ws RX0 TX0 7, w ∈ wsX0_read := fun _ h => List.mem_cons_of_mem _ (List.mem_append_left _ (List.mem_append_right _ h))
theorem inX0_read_X3 : ∀ w ∈ u_ws RX3 TX3 2, w ∈ wsX0_read := fun _ h => List.mem_cons_of_mem _ (List.mem_append_right _ h)
theorem lkX0_read_9 : Cond.fieldLink RX0 9 (TX0 0).1 (TX0 0).2.1 (TX0 0).2.2.1 ∈ wsX0_read := List.mem_of_getElem? (i := 3) rfl
theorem lkX0_read_15 : Cond.fieldLink RX0 15 (TX0 1).1 (TX0 1).2.1 (TX0 1).2.2.1 ∈ wsX0_read := List.mem_of_getElem? (i := 4) rfl
theorem lkX0_read_29 : Cond.fieldLink RX0 29 (TX0 5).1 (TX0 5).2.1 (TX0 5).2.2.1 ∈ wsX0_read := List.mem_of_getElem? (i := 1) rfl
theorem lkX0_read_32 : Cond.fieldLink RX0 32 (TX0 6).1 (TX0 6).2.1 (TX0 6).2.2.1 ∈ wsX0_read := List.mem_of_getElem? (i := 2) rfl
theorem hdX0_read : yX0_read.cls = RX0 ∧ yX0_read.cls ≠ "java/lang/invoke/MethodHandle" ∧ yX0_read.cls ≠ "java/lang/invoke/VarHandle" ∧ (parseMethodDescriptor yX0_read.desc).map (fun d => d.parameters.length) = some 2 := by decide +kernel
set_option maxHeartbeats 4000000 in
set_option maxRecDepth 100000 in
theorem ctX0_read (l : Launch) (D : va_G) (cI cJ cZ : ClassId) (tL tM tU : Nat) (adK adV : Nat → Nat) (q_this q_p1 q_numbers q_fresh q_told q_p1_bytes : Nat) (v_faultKind : Int32) (v_faultPlace : Int32) (v_at : Int32) (v_end : Int32) (v_p1_length : Int32) (w_numbers : Nat → Int32) (w_fresh : Nat → Int32) (w_told : Nat → Int32) (w_p1_bytes : Nat → Int32) (a2 : Int32) (o : Int32 × Int32 × Int32 × Int32 × Int32 × (Nat → Int32) × (Nat → Int32) × (Nat → Int32)) (hsh : shX0_read a2 v_faultKind v_faultPlace v_at v_end w_numbers w_fresh w_told v_p1_length w_p1_bytes = some o) : CtI l yX0_read wsX0_read rmX0_read D (tys3 cI cJ cZ) (En tL tM tU adK adV) (wdX0_read cI cJ cZ q_this q_p1 q_numbers q_fresh q_told q_p1_bytes v_faultKind v_faultPlace v_at v_end v_p1_length w_numbers w_fresh w_told w_p1_bytes) [.ref q_this, .ref q_p1, .int a2] o.1 (wdX0_read cI cJ cZ q_this q_p1 q_numbers q_fresh q_told q_p1_bytes o.2.1 o.2.2.1 o.2.2.2.1 o.2.2.2.2.1 v_p1_length o.2.2.2.2.2.1 o.2.2.2.2.2.2.1 o.2.2.2.2.2.2.2 w_p1_bytes) := by
  refine ctI plX0 rfl (Nat.le_of_ble_eq_true rfl) ?_
  intro p e s m below meth c A Q S hK hA hE hret H locs hP hD hS ls hl
  replace S : CallFix p m c cX0_read 5 s _ wsX0_read RX0 := S
  generalize ([.ref q_this, .ref q_p1, .int a2] : List Value).toArray = args at S hret ⊢
  obtain ⟨hx, hb, hml, hown, hts⟩ := id S
  replace hl : lv_has ls 5 [(0, .ref q_this), (1, .ref q_p1), (2, .int a2)] := hl
  unfold shX0_read at hsh
  have Jj_36 : ∀ (v_faultKind_j_36 : Int32) (v_faultPlace_j_36 : Int32) (v_at_j_36 : Int32) (v_end_j_36 : Int32) (w_fresh_j_36 : Nat → Int32) (w_told_j_36 : Nat → Int32) (H : Heap) (locs : List Loc), va_P D vwCl (wdX0_read cI cJ cZ q_this q_p1 q_numbers q_fresh q_told q_p1_bytes v_faultKind_j_36 v_faultPlace_j_36 v_at_j_36 v_end_j_36 v_p1_length w_numbers w_fresh_j_36 w_told_j_36 w_p1_bytes) H → va_D A (wdX0_read cI cJ cZ q_this q_p1 q_numbers q_fresh q_told q_p1_bytes v_faultKind_j_36 v_faultPlace_j_36 v_at_j_36 v_end_j_36 v_p1_length w_numbers w_fresh_j_36 w_told_j_36 w_p1_bytes) → va_S A s.heap H locs → ∀ ls : Array Slot, lv_has ls 5 [] → shX0_read_j_36 w_numbers v_faultKind_j_36 v_faultPlace_j_36 v_at_j_36 v_end_j_36 w_fresh_j_36 w_told_j_36 = some o → W p l e rmX0_read s m args below meth c H locs 0 0 Q (F0 m 36 ls []) := by
    intro v_faultKind_j_36 v_faultPlace_j_36 v_at_j_36 v_end_j_36 w_fresh_j_36 w_told_j_36 H locs hP hD hS ls hl hsh
    unfold shX0_read_j_36 at hsh
    refine lv_iconst (v := (-1 : Int32)) hx hb dX0_read_36 (by decide) ?_
    have ho := Option.some.inj hsh
    rw [← ho] at hret
    exact hret _ _ _ _ dX0_read_37 hP hD hS
  have Jj_78 : ∀ (x3_j_78 : Int32) (v_faultKind_j_78 : Int32) (v_faultPlace_j_78 : Int32) (v_at_j_78 : Int32) (v_end_j_78 : Int32) (w_numbers_j_78 : Nat → Int32) (w_fresh_j_78 : Nat → Int32) (w_told_j_78 : Nat → Int32) (H : Heap) (locs : List Loc), va_P D vwCl (wdX0_read cI cJ cZ q_this q_p1 q_numbers q_fresh q_told q_p1_bytes v_faultKind_j_78 v_faultPlace_j_78 v_at_j_78 v_end_j_78 v_p1_length w_numbers_j_78 w_fresh_j_78 w_told_j_78 w_p1_bytes) H → va_D A (wdX0_read cI cJ cZ q_this q_p1 q_numbers q_fresh q_told q_p1_bytes v_faultKind_j_78 v_faultPlace_j_78 v_at_j_78 v_end_j_78 v_p1_length w_numbers_j_78 w_fresh_j_78 w_told_j_78 w_p1_bytes) → va_S A s.heap H locs → ∀ ls : Array Slot, lv_has ls 5 [(3, .int x3_j_78)] → shX0_read_j_78 x3_j_78 v_faultKind_j_78 v_faultPlace_j_78 v_at_j_78 v_end_j_78 w_numbers_j_78 w_fresh_j_78 w_told_j_78 = some o → W p l e rmX0_read s m args below meth c H locs 0 0 Q (F0 m 78 ls []) := by
    intro x3_j_78 v_faultKind_j_78 v_faultPlace_j_78 v_at_j_78 v_end_j_78 w_numbers_j_78 w_fresh_j_78 w_told_j_78 H locs hP hD hS ls hl hsh
    unfold shX0_read_j_78 at hsh
    refine lv_iload_n hx hb dX0_read_78 rfl (lv_at hl 0 rfl) ?_
    have ho := Option.some.inj hsh
    rw [← ho] at hret
    exact hret _ _ _ _ dX0_read_79 hP hD hS
  have Jj_49 : ∀ (x3_j_49 : Int32) (v_faultKind_j_49 : Int32) (v_faultPlace_j_49 : Int32) (v_at_j_49 : Int32) (v_end_j_49 : Int32) (w_fresh_j_49 : Nat → Int32) (w_told_j_49 : Nat → Int32) (H : Heap) (locs : List Loc), va_P D vwCl (wdX0_read cI cJ cZ q_this q_p1 q_numbers q_fresh q_told q_p1_bytes v_faultKind_j_49 v_faultPlace_j_49 v_at_j_49 v_end_j_49 v_p1_length w_numbers w_fresh_j_49 w_told_j_49 w_p1_bytes) H → va_D A (wdX0_read cI cJ cZ q_this q_p1 q_numbers q_fresh q_told q_p1_bytes v_faultKind_j_49 v_faultPlace_j_49 v_at_j_49 v_end_j_49 v_p1_length w_numbers w_fresh_j_49 w_told_j_49 w_p1_bytes) → va_S A s.heap H locs → ∀ ls : Array Slot, lv_has ls 5 [(0, .ref q_this), (3, .int x3_j_49)] → shX0_read_j_49 w_numbers x3_j_49 v_faultKind_j_49 v_faultPlace_j_49 v_at_j_49 v_end_j_49 w_fresh_j_49 w_told_j_49 = some o → W p l e rmX0_read s m args below meth c H locs 0 0 Q (F0 m 49 ls []) := by
    intro x3_j_49 v_faultKind_j_49 v_faultPlace_j_49 v_at_j_49 v_end_j_49 w_fresh_j_49 w_told_j_49 H locs hP hD hS ls hl hsh
    unfold shX0_read_j_49 at hsh
    refine lv_iconst (v := (0 : Int32)) hx hb dX0_read_49 (by decide) ?_
    refine lv_istore (lv' := [(4, .int (0 : Int32)), (0, .ref q_this), (3, .int x3_j_49)]) hx hb dX0_read_50 hl (by decide) rfl (fun ls hl => ?_)
    obtain ⟨r_52, hl_52, hk_52⟩ := bd hsh
    obtain ⟨n_52, hn_52⟩ := lp_iff.mp hl_52
    have L_52 : ∀ (n : Nat) (x4_52 : Int32) (w_numbers_52 : Nat → Int32) (H : Heap) (locs : List Loc), va_P D vwCl (wdX0_read cI cJ cZ q_this q_p1 q_numbers q_fresh q_told q_p1_bytes v_faultKind_j_49 v_faultPlace_j_49 v_at_j_49 v_end_j_49 v_p1_length w_numbers_52 w_fresh_j_49 w_told_j_49 w_p1_bytes) H → va_D A (wdX0_read cI cJ cZ q_this q_p1 q_numbers q_fresh q_told q_p1_bytes v_faultKind_j_49 v_faultPlace_j_49 v_at_j_49 v_end_j_49 v_p1_length w_numbers_52 w_fresh_j_49 w_told_j_49 w_p1_bytes) → va_S A s.heap H locs → ∀ ls : Array Slot, lv_has ls 5 [(0, .ref q_this), (3, .int x3_j_49), (4, .int x4_52)] → it (fun s : Int32 × (Nat → Int32) => shX0_read_L52 w_fresh_j_49 s.1 s.2) n (x4_52, w_numbers_52) = some r_52 → W p l e rmX0_read s m args below meth c H locs 0 0 Q (F0 m 52 ls []) := by
      intro n
      induction n with
      | zero => exact fun _ _ _ _ _ _ _ _ _ hi => it_0 hi
      | succ n ih_52 =>
        intro x4_52 w_numbers_52 H locs hP hD hS ls hl hi
        obtain ⟨b_52, hsh, hB1_52, hB2_52⟩ := it_b hi
        replace hsh : shX0_read_L52 w_fresh_j_49 x4_52 w_numbers_52 = some b_52 := hsh
        unfold shX0_read_L52 at hsh
        refine lv_iload hx hb dX0_read_52 (lv_at hl 2 rfl) ?_
        refine lv_iconst (v := (3 : Int32)) hx hb dX0_read_54 (by decide) ?_
        refine lv_icmp_ge (tgt := 78) hx hb dX0_read_55 (by decide) (fun c1 => ?_) (fun c1 => ?_)
        · skip
          have hsh := ite_t hsh c1
          have he := hB2_52 _ hsh
          rw [← he] at hk_52
          exact Jj_78 x3_j_49 v_faultKind_j_49 v_faultPlace_j_49 v_at_j_49 v_end_j_49 w_numbers_52 w_fresh_j_49 w_told_j_49 H locs hP hD hS ls (lv_sub hl [1] rfl) hk_52
        · skip
          have hsh := ite_f hsh c1
          refine lv_aload_n hx hb dX0_read_58 rfl (lv_at hl 0 rfl) ?_
          refine kget (ci := 0) S hK hP rfl inX0_read_X0 0 rfl 0 (by decide) lkX0_read_9 rfl dX0_read_59 ?_
          refine lv_iload hx hb dX0_read_62 (lv_at hl 2 rfl) ?_
          refine lv_aload_n hx hb dX0_read_64 rfl (lv_at hl 0 rfl) ?_
          refine kget (ci := 0) S hK hP rfl inX0_read_X0 0 rfl 1 (by decide) lkX0_read_15 rfl dX0_read_65 ?_
          refine lv_iload hx hb dX0_read_68 (lv_at hl 2 rfl) ?_
          obtain ⟨_, hg, hsh⟩ := bd hsh
          refine kial S hK hP 2 0 rfl rfl (gd_in hg) dX0_read_70 ?_
          obtain ⟨_, hg, hsh⟩ := bd hsh
          refine kias S hK hP hD hS 1 0 rfl rfl (gd_in hg) (ws' := (wdX0_read cI cJ cZ q_this q_p1 q_numbers q_fresh q_told q_p1_bytes v_faultKind_j_49 v_faultPlace_j_49 v_at_j_49 v_end_j_49 v_p1_length (upd w_numbers_52 (x4_52).toNatClampNeg (w_fresh_j_49 (x4_52).toNatClampNeg)) w_fresh_j_49 w_told_j_49 w_p1_bytes)) rfl dX0_read_71 (fun H locs hP hD hS => ?_)
          refine lv_iinc (v := (x4_52 + (1 : Int32))) (lv' := [(4, .int (x4_52 + (1 : Int32))), (0, .ref q_this), (3, .int x3_j_49)]) hx hb dX0_read_72 hl (k := 2) rfl (congrArg (fun z : Int32 => x4_52 + z) (by decide)) (by decide) rfl (fun ls hl => ?_)
          refine lv_goto (tgt := 52) hx hb dX0_read_75 (by decide) ?_
          exact ih_52 (x4_52 + (1 : Int32)) (upd w_numbers_52 (x4_52).toNatClampNeg (w_fresh_j_49 (x4_52).toNatClampNeg)) H locs hP hD hS ls (lv_sub hl [1, 2, 0] rfl) (hB1_52 _ hsh)
    exact L_52 n_52 (0 : Int32) w_numbers H locs hP hD hS ls (lv_sub hl [1, 2, 0] rfl) hn_52
  refine lv_aload_n hx hb dX0_read_0 rfl (lv_at hl 0 rfl) ?_
  refine lv_iload_n hx hb dX0_read_1 rfl (lv_at hl 2 rfl) ?_
  obtain ⟨o_2, he, hsh⟩ := bd hsh
  refine kVv (ci := 0) S hK hA (ctX0_begin l D cI cJ cZ tL tM tU adK adV q_this q_numbers q_fresh q_told v_faultKind v_faultPlace v_at v_end w_fresh w_told a2 o_2 he) En_cl (cwV 1 hts gX0_read_X0_begin rfl rfl rfl hdX0_begin ⟨Nat.le_of_ble_eq_true rfl, Nat.le_of_ble_eq_true rfl⟩) rfl 0 rfl [0, 2, 3] [1, 4, 5] [3, 0, 4, 5, 1, 2] (ws' := (wdX0_read cI cJ cZ q_this q_p1 q_numbers q_fresh q_told q_p1_bytes o_2.1 o_2.2.1 o_2.2.2.1 o_2.2.2.2.1 v_p1_length w_numbers o_2.2.2.2.2.1 o_2.2.2.2.2.2 w_p1_bytes)) ⟨rfl, rfl, rfl, rfl, rfl, rfl, rfl⟩ hE rfl hl.1 rfl (Nat.le_of_ble_eq_true rfl) dX0_read_2 hP hD hS (fun H locs hP hD hS => ?_)
  refine lv_iconst (v := (0 : Int32)) hx hb dX0_read_5 (by decide) ?_
  refine lv_istore_n (lv' := [(3, .int (0 : Int32)), (0, .ref q_this), (1, .ref q_p1), (2, .int a2)]) hx hb dX0_read_6 rfl hl (by decide) rfl (fun ls hl => ?_)
  refine lv_aload_n hx hb dX0_read_7 rfl (lv_at hl 1 rfl) ?_
  refine lv_aload_n hx hb dX0_read_8 rfl (lv_at hl 2 rfl) ?_
  obtain ⟨o_9, he, hsh⟩ := bd hsh
  refine kVv (ci := 0) S hK hA (ctX0_skipBlanks l D cI cJ cZ q_this q_p1 q_numbers q_fresh q_told q_p1_bytes o_2.1 o_2.2.1 o_2.2.2.1 o_2.2.2.2.1 v_p1_length w_p1_bytes o_9 he) noE_cl (cwV 1 hts gX0_read_X0_skipBlanks rfl rfl rfl hdX0_skipBlanks ⟨Nat.le_of_ble_eq_true rfl, Nat.le_of_ble_eq_true rfl⟩) rfl 0 rfl [0, 4, 5] [1, 2, 3] [3, 0, 1, 2, 4, 5] (ws' := (wdX0_read cI cJ cZ q_this q_p1 q_numbers q_fresh q_told q_p1_bytes o_2.1 o_2.2.1 o_9 o_2.2.2.2.1 v_p1_length w_numbers o_2.2.2.2.2.1 o_2.2.2.2.2.2 w_p1_bytes)) ⟨rfl, rfl, rfl, rfl, rfl, rfl, rfl⟩ trivial rfl hl.1 rfl (Nat.le_of_ble_eq_true rfl) dX0_read_9 hP hD hS (fun H locs hP hD hS => ?_)
  obtain ⟨r_12, hl_12, hk_12⟩ := bd hsh
  obtain ⟨n_12, hn_12⟩ := lp_iff.mp hl_12
  have L_12 : ∀ (n : Nat) (x3_12 : Int32) (v_faultKind_12 : Int32) (v_faultPlace_12 : Int32) (v_at_12 : Int32) (w_fresh_12 : Nat → Int32) (w_told_12 : Nat → Int32) (H : Heap) (locs : List Loc), va_P D vwCl (wdX0_read cI cJ cZ q_this q_p1 q_numbers q_fresh q_told q_p1_bytes v_faultKind_12 v_faultPlace_12 v_at_12 o_2.2.2.2.1 v_p1_length w_numbers w_fresh_12 w_told_12 w_p1_bytes) H → va_D A (wdX0_read cI cJ cZ q_this q_p1 q_numbers q_fresh q_told q_p1_bytes v_faultKind_12 v_faultPlace_12 v_at_12 o_2.2.2.2.1 v_p1_length w_numbers w_fresh_12 w_told_12 w_p1_bytes) → va_S A s.heap H locs → ∀ ls : Array Slot, lv_has ls 5 [(0, .ref q_this), (1, .ref q_p1), (3, .int x3_12)] → it (fun s : Int32 × Int32 × Int32 × Int32 × (Nat → Int32) × (Nat → Int32) => shX0_read_L12 v_p1_length w_p1_bytes o_2 s.1 s.2.1 s.2.2.1 s.2.2.2.1 s.2.2.2.2.1 s.2.2.2.2.2) n (x3_12, v_faultKind_12, v_faultPlace_12, v_at_12, w_fresh_12, w_told_12) = some r_12 → W p l e rmX0_read s m args below meth c H locs 0 0 Q (F0 m 12 ls []) := by
    intro n
    induction n with
    | zero => exact fun _ _ _ _ _ _ _ _ _ _ _ _ _ hi => it_0 hi
    | succ n ih_12 =>
      intro x3_12 v_faultKind_12 v_faultPlace_12 v_at_12 w_fresh_12 w_told_12 H locs hP hD hS ls hl hi
      obtain ⟨b_12, hsh, hB1_12, hB2_12⟩ := it_b hi
      replace hsh : shX0_read_L12 v_p1_length w_p1_bytes o_2 x3_12 v_faultKind_12 v_faultPlace_12 v_at_12 w_fresh_12 w_told_12 = some b_12 := hsh
      unfold shX0_read_L12 at hsh
      refine lv_aload_n hx hb dX0_read_12 rfl (lv_at hl 0 rfl) ?_
      refine kget (ci := 0) S hK hP rfl inX0_read_X0 0 rfl 5 (by decide) lkX0_read_29 rfl dX0_read_13 ?_
      refine lv_aload_n hx hb dX0_read_16 rfl (lv_at hl 0 rfl) ?_
      refine kget (ci := 0) S hK hP rfl inX0_read_X0 0 rfl 6 (by decide) lkX0_read_32 rfl dX0_read_17 ?_
      refine lv_icmp_ge (tgt := 49) hx hb dX0_read_20 (by decide) (fun c1 => ?_) (fun c1 => ?_)
      · skip
        have hsh := ite_t hsh c1
        have he := hB2_12 _ hsh
        rw [← he] at hk_12
        have hk_12 := se_r hk_12
        exact Jj_49 x3_12 v_faultKind_12 v_faultPlace_12 v_at_12 o_2.2.2.2.1 w_fresh_12 w_told_12 H locs hP hD hS ls (lv_sub hl [0, 2] rfl) hk_12
      · skip
        have hsh := ite_f hsh c1
        refine lv_iload_n hx hb dX0_read_23 rfl (lv_at hl 2 rfl) ?_
        refine lv_iconst (v := (3 : Int32)) hx hb dX0_read_24 (by decide) ?_
        refine lv_icmp_gt (tgt := 49) hx hb dX0_read_25 (by decide) (fun c1 => ?_) (fun c1 => ?_)
        · skip
          have hsh := ite_t hsh c1
          have he := hB2_12 _ hsh
          rw [← he] at hk_12
          have hk_12 := se_r hk_12
          exact Jj_49 x3_12 v_faultKind_12 v_faultPlace_12 v_at_12 o_2.2.2.2.1 w_fresh_12 w_told_12 H locs hP hD hS ls (lv_sub hl [0, 2] rfl) hk_12
        · skip
          have hsh := ite_f hsh c1
          refine lv_aload_n hx hb dX0_read_28 rfl (lv_at hl 0 rfl) ?_
          refine lv_aload_n hx hb dX0_read_29 rfl (lv_at hl 1 rfl) ?_
          obtain ⟨o_30, he, hsh⟩ := bd hsh
          refine kVi (ci := 0) S hK hA (ctX0_readLine l D cI cJ cZ tL tM tU adK adV q_this q_p1 q_numbers q_fresh q_told q_p1_bytes v_faultKind_12 v_faultPlace_12 v_at_12 o_2.2.2.2.1 v_p1_length w_fresh_12 w_told_12 w_p1_bytes o_30 he) En_cl (cwV 1 hts gX0_read_X0_readLine rfl rfl rfl hdX0_readLine ⟨Nat.le_of_ble_eq_true rfl, Nat.le_of_ble_eq_true rfl⟩) rfl 0 rfl [0, 2, 3, 4, 5] [1] [1, 0, 2, 3, 4, 5] (ws' := (wdX0_read cI cJ cZ q_this q_p1 q_numbers q_fresh q_told q_p1_bytes o_30.2.1 o_30.2.2.1 o_30.2.2.2.1 o_2.2.2.2.1 v_p1_length w_numbers o_30.2.2.2.2.1 o_30.2.2.2.2.2 w_p1_bytes)) ⟨rfl, rfl, rfl, rfl, rfl, rfl, rfl⟩ hE rfl hl.1 rfl (Nat.le_of_ble_eq_true rfl) dX0_read_30 hP hD hS (fun H locs hP hD hS => ?_)
          refine lv_if_ne (tgt := 38) hx hb dX0_read_33 (by decide) (fun c1 => ?_) (fun c1 => ?_)
          · skip
            have hsh := ite_t hsh c1
            refine lv_iinc (v := (x3_12 + (1 : Int32))) (lv' := [(3, .int (x3_12 + (1 : Int32))), (0, .ref q_this), (1, .ref q_p1)]) hx hb dX0_read_38 hl (k := 2) rfl (congrArg (fun z : Int32 => x3_12 + z) (by decide)) (by decide) rfl (fun ls hl => ?_)
            refine lv_aload_n hx hb dX0_read_41 rfl (lv_at hl 1 rfl) ?_
            refine lv_aload_n hx hb dX0_read_42 rfl (lv_at hl 2 rfl) ?_
            obtain ⟨o_43, he, hsh⟩ := bd hsh
            refine kVv (ci := 0) S hK hA (ctX0_skipBlanks l D cI cJ cZ q_this q_p1 q_numbers q_fresh q_told q_p1_bytes o_30.2.1 o_30.2.2.1 o_30.2.2.2.1 o_2.2.2.2.1 v_p1_length w_p1_bytes o_43 he) noE_cl (cwV 1 hts gX0_read_X0_skipBlanks rfl rfl rfl hdX0_skipBlanks ⟨Nat.le_of_ble_eq_true rfl, Nat.le_of_ble_eq_true rfl⟩) rfl 0 rfl [0, 4, 5] [1, 2, 3] [3, 0, 1, 2, 4, 5] (ws' := (wdX0_read cI cJ cZ q_this q_p1 q_numbers q_fresh q_told q_p1_bytes o_30.2.1 o_30.2.2.1 o_43 o_2.2.2.2.1 v_p1_length w_numbers o_30.2.2.2.2.1 o_30.2.2.2.2.2 w_p1_bytes)) ⟨rfl, rfl, rfl, rfl, rfl, rfl, rfl⟩ trivial rfl hl.1 rfl (Nat.le_of_ble_eq_true rfl) dX0_read_43 hP hD hS (fun H locs hP hD hS => ?_)
            refine lv_goto (tgt := 12) hx hb dX0_read_46 (by decide) ?_
            exact ih_12 (x3_12 + (1 : Int32)) o_30.2.1 o_30.2.2.1 o_43 o_30.2.2.2.2.1 o_30.2.2.2.2.2 H locs hP hD hS ls (lv_sub hl [1, 2, 0] rfl) (hB1_12 _ hsh)
          · skip
            have hsh := ite_f hsh (fun h => h c1)
            have he := hB2_12 _ hsh
            rw [← he] at hk_12
            have hk_12 := se_l hk_12
            exact Jj_36 o_30.2.1 o_30.2.2.1 o_30.2.2.2.1 o_2.2.2.2.1 o_30.2.2.2.2.1 o_30.2.2.2.2.2 H locs hP hD hS ls (lv_sub hl [] rfl) hk_12
  exact L_12 n_12 (0 : Int32) o_2.1 o_2.2.1 o_9 o_2.2.2.2.2.1 o_2.2.2.2.2.2 H locs hP hD hS ls (lv_sub hl [1, 2, 0] rfl) hn_12
