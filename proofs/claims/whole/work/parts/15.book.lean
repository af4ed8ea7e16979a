/-! DryWells$Book.salt -/
noncomputable def shX0_salt (w_numbers : Nat → Int32) : Option (Int32) :=
  some (w_numbers ((0 : Int32)).toNatClampNeg)
def wdX0_salt (cI cJ cZ : ClassId) (q_this q_numbers q_fresh q_told : Nat) (v_faultKind : Int32) (v_faultPlace : Int32) (v_at : Int32) (v_end : Int32) (w_numbers : Nat → Int32) : va_W := [(q_this, .inr (0, [.ref q_numbers, .ref q_fresh, .ref q_told, .int v_faultKind, .int v_faultPlace, .int v_at, .int v_end])), (q_numbers, .inl (cI, 3, .inl w_numbers))]
abbrev rmX0_salt : Room := { frames := 0, cells := 0, slots := 0, locals := 0 }
theorem inX0_salt_X0 : ∀ w ∈ u_ws RX0 TX0 7, w ∈ wsX0_salt := fun _ h => List.mem_cons_of_mem _ (List.mem_append_right _ h)
theorem lkX0_salt_9 : Cond.fieldLink RX0 9 (TX0 0).1 (TX0 0).2.1 (TX0 0).2.2.1 ∈ wsX0_salt := List.mem_of_getElem? (i := 1) rfl
theorem hdX0_salt : yX0_salt.cls = RX0 ∧ yX0_salt.cls ≠ "java/lang/invoke/MethodHandle" ∧ yX0_salt.cls ≠ "java/lang/invoke/VarHandle" ∧ (parseMethodDescriptor yX0_salt.desc).map (fun d => d.parameters.length) = some 0 := by decide +kernel
set_option maxHeartbeats 4000000 in
set_option maxRecDepth 100000 in
theorem ctX0_salt (l : Launch) (D : va_G) (cI cJ cZ : ClassId) (q_this q_numbers q_fresh q_told : Nat) (v_faultKind : Int32) (v_faultPlace : Int32) (v_at : Int32) (v_end : Int32) (w_numbers : Nat → Int32)  (o : Int32) (hsh : shX0_salt w_numbers = some o) : CtI l yX0_salt wsX0_salt rmX0_salt D (tys3 cI cJ cZ) noE (wdX0_salt cI cJ cZ q_this q_numbers q_fresh q_told v_faultKind v_faultPlace v_at v_end w_numbers) [.ref q_this] o (wdX0_salt cI cJ cZ q_this q_numbers q_fresh q_told v_faultKind v_faultPlace v_at v_end w_numbers) := by
  refine ctI plX0 rfl (Nat.le_of_ble_eq_true rfl) ?_
  intro p e s m below meth c A Q S hK hA _ hret H locs hP hD hS ls hl
  replace S : CallFix p m c cX0_salt 1 s _ wsX0_salt RX0 := S
  generalize ([.ref q_this] : List Value).toArray = args at S hret ⊢
  obtain ⟨hx, hb, hml, hown, hts⟩ := id S
  replace hl : lv_has ls 1 [(0, .ref q_this)] := hl
  unfold shX0_salt at hsh
  refine lv_aload_n hx hb dX0_salt_0 rfl (lv_at hl 0 rfl) ?_
  refine kget (ci := 0) S hK hP rfl inX0_salt_X0 0 rfl 0 (by decide) lkX0_salt_9 rfl dX0_salt_1 ?_
  refine lv_iconst (v := (0 : Int32)) hx hb dX0_salt_4 (by decide) ?_
  refine kial S hK hP 1 0 rfl rfl (vin (by decide)) dX0_salt_5 ?_
  have ho := Option.some.inj hsh
  rw [← ho] at hret
  exact hret _ _ _ _ dX0_salt_6 hP hD hS

/-! DryWells$Book.dry -/
noncomputable def shX0_dry (w_numbers : Nat → Int32) : Option (Int32) :=
  some (w_numbers ((1 : Int32)).toNatClampNeg)
def wdX0_dry (cI cJ cZ : ClassId) (q_this q_numbers q_fresh q_told : Nat) (v_faultKind : Int32) (v_faultPlace : Int32) (v_at : Int32) (v_end : Int32) (w_numbers : Nat → Int32) : va_W := [(q_this, .inr (0, [.ref q_numbers, .ref q_fresh, .ref q_told, .int v_faultKind, .int v_faultPlace, .int v_at, .int v_end])), (q_numbers, .inl (cI, 3, .inl w_numbers))]
abbrev rmX0_dry : Room := { frames := 0, cells := 0, slots := 0, locals := 0 }
theorem inX0_dry_X0 : ∀ w ∈ u_ws RX0 TX0 7, w ∈ wsX0_dry := fun _ h => List.mem_cons_of_mem _ (List.mem_append_right _ h)
theorem lkX0_dry_9 : Cond.fieldLink RX0 9 (TX0 0).1 (TX0 0).2.1 (TX0 0).2.2.1 ∈ wsX0_dry := List.mem_of_getElem? (i := 1) rfl
theorem hdX0_dry : yX0_dry.cls = RX0 ∧ yX0_dry.cls ≠ "java/lang/invoke/MethodHandle" ∧ yX0_dry.cls ≠ "java/lang/invoke/VarHandle" ∧ (parseMethodDescriptor yX0_dry.desc).map (fun d => d.parameters.length) = some 0 := by decide +kernel
set_option maxHeartbeats 4000000 in
set_option maxRecDepth 100000 in
theorem ctX0_dry (l : Launch) (D : va_G) (cI cJ cZ : ClassId) (q_this q_numbers q_fresh q_told : Nat) (v_faultKind : Int32) (v_faultPlace : Int32) (v_at : Int32) (v_end : Int32) (w_numbers : Nat → Int32)  (o : Int32) (hsh : shX0_dry w_numbers = some o) : CtI l yX0_dry wsX0_dry rmX0_dry D (tys3 cI cJ cZ) noE (wdX0_dry cI cJ cZ q_this q_numbers q_fresh q_told v_faultKind v_faultPlace v_at v_end w_numbers) [.ref q_this] o (wdX0_dry cI cJ cZ q_this q_numbers q_fresh q_told v_faultKind v_faultPlace v_at v_end w_numbers) := by
  refine ctI plX0 rfl (Nat.le_of_ble_eq_true rfl) ?_
  intro p e s m below meth c A Q S hK hA _ hret H locs hP hD hS ls hl
  replace S : CallFix p m c cX0_dry 1 s _ wsX0_dry RX0 := S
  generalize ([.ref q_this] : List Value).toArray = args at S hret ⊢
  obtain ⟨hx, hb, hml, hown, hts⟩ := id S
  replace hl : lv_has ls 1 [(0, .ref q_this)] := hl
  unfold shX0_dry at hsh
  refine lv_aload_n hx hb dX0_dry_0 rfl (lv_at hl 0 rfl) ?_
  refine kget (ci := 0) S hK hP rfl inX0_dry_X0 0 rfl 0 (by decide) lkX0_dry_9 rfl dX0_dry_1 ?_
  refine lv_iconst (v := (1 : Int32)) hx hb dX0_dry_4 (by decide) ?_
  refine kial S hK hP 1 0 rfl rfl (vin (by decide)) dX0_dry_5 ?_
  have ho := Option.some.inj hsh
  rw [← ho] at hret
  exact hret _ _ _ _ dX0_dry_6 hP hD hS

/-! DryWells$Book.rest -/
noncomputable def shX0_rest (w_numbers : Nat → Int32) : Option (Int32) :=
  some (w_numbers ((2 : Int32)).toNatClampNeg)
def wdX0_rest (cI cJ cZ : ClassId) (q_this q_numbers q_fresh q_told : Nat) (v_faultKind : Int32) (v_faultPlace : Int32) (v_at : Int32) (v_end : Int32) (w_numbers : Nat → Int32) : va_W := [(q_this, .inr (0, [.ref q_numbers, .ref q_fresh, .ref q_told, .int v_faultKind, .int v_faultPlace, .int v_at, .int v_end])), (q_numbers, .inl (cI, 3, .inl w_numbers))]
abbrev rmX0_rest : Room := { frames := 0, cells := 0, slots := 0, locals := 0 }
theorem inX0_rest_X0 : ∀ w ∈ u_ws RX0 TX0 7, w ∈ wsX0_rest := fun _ h => List.mem_cons_of_mem _ (List.mem_append_right _ h)
theorem lkX0_rest_9 : Cond.fieldLink RX0 9 (TX0 0).1 (TX0 0).2.1 (TX0 0).2.2.1 ∈ wsX0_rest := List.mem_of_getElem? (i := 1) rfl
theorem hdX0_rest : yX0_rest.cls = RX0 ∧ yX0_rest.cls ≠ "java/lang/invoke/MethodHandle" ∧ yX0_rest.cls ≠ "java/lang/invoke/VarHandle" ∧ (parseMethodDescriptor yX0_rest.desc).map (fun d => d.parameters.length) = some 0 := by decide +kernel
set_option maxHeartbeats 4000000 in
set_option maxRecDepth 100000 in
theorem ctX0_rest (l : Launch) (D : va_G) (cI cJ cZ : ClassId) (q_this q_numbers q_fresh q_told : Nat) (v_faultKind : Int32) (v_faultPlace : Int32) (v_at : Int32) (v_end : Int32) (w_numbers : Nat → Int32)  (o : Int32) (hsh : shX0_rest w_numbers = some o) : CtI l yX0_rest wsX0_rest rmX0_rest D (tys3 cI cJ cZ) noE (wdX0_rest cI cJ cZ q_this q_numbers q_fresh q_told v_faultKind v_faultPlace v_at v_end w_numbers) [.ref q_this] o (wdX0_rest cI cJ cZ q_this q_numbers q_fresh q_told v_faultKind v_faultPlace v_at v_end w_numbers) := by
  refine ctI plX0 rfl (Nat.le_of_ble_eq_true rfl) ?_
  intro p e s m below meth c A Q S hK hA _ hret H locs hP hD hS ls hl
  replace S : CallFix p m c cX0_rest 1 s _ wsX0_rest RX0 := S
  generalize ([.ref q_this] : List Value).toArray = args at S hret ⊢
  obtain ⟨hx, hb, hml, hown, hts⟩ := id S
  replace hl : lv_has ls 1 [(0, .ref q_this)] := hl
  unfold shX0_rest at hsh
  refine lv_aload_n hx hb dX0_rest_0 rfl (lv_at hl 0 rfl) ?_
  refine kget (ci := 0) S hK hP rfl inX0_rest_X0 0 rfl 0 (by decide) lkX0_rest_9 rfl dX0_rest_1 ?_
  refine lv_iconst (v := (2 : Int32)) hx hb dX0_rest_4 (by decide) ?_
  refine kial S hK hP 1 0 rfl rfl (vin (by decide)) dX0_rest_5 ?_
  have ho := Option.some.inj hsh
  rw [← ho] at hret
  exact hret _ _ _ _ dX0_rest_6 hP hD hS

/-! DryWells$Book.faultKind -/
noncomputable def shX0_faultKind (v_faultKind : Int32) : Option (Int32) :=
  some v_faultKind
def wdX0_faultKind (cI cJ cZ : ClassId) (q_this q_numbers q_fresh q_told : Nat) (v_faultKind : Int32) (v_faultPlace : Int32) (v_at : Int32) (v_end : Int32) : va_W := [(q_this, .inr (0, [.ref q_numbers, .ref q_fresh, .ref q_told, .int v_faultKind, .int v_faultPlace, .int v_at, .int v_end]))]
abbrev rmX0_faultKind : Room := { frames := 0, cells := 0, slots := 0, locals := 0 }
theorem inX0_faultKind_X0 : ∀ w ∈ u_ws RX0 TX0 7, w ∈ wsX0_faultKind := fun _ h => List.mem_cons_of_mem _ (List.mem_append_right _ h)
theorem lkX0_faultKind_22 : Cond.fieldLink RX0 22 (TX0 3).1 (TX0 3).2.1 (TX0 3).2.2.1 ∈ wsX0_faultKind := List.mem_of_getElem? (i := 1) rfl
theorem hdX0_faultKind : yX0_faultKind.cls = RX0 ∧ yX0_faultKind.cls ≠ "java/lang/invoke/MethodHandle" ∧ yX0_faultKind.cls ≠ "java/lang/invoke/VarHandle" ∧ (parseMethodDescriptor yX0_faultKind.desc).map (fun d => d.parameters.length) = some 0 := by decide +kernel
set_option maxHeartbeats 4000000 in
set_option maxRecDepth 100000 in
theorem ctX0_faultKind (l : Launch) (D : va_G) (cI cJ cZ : ClassId) (q_this q_numbers q_fresh q_told : Nat) (v_faultKind : Int32) (v_faultPlace : Int32) (v_at : Int32) (v_end : Int32)  (o : Int32) (hsh : shX0_faultKind v_faultKind = some o) : CtI l yX0_faultKind wsX0_faultKind rmX0_faultKind D (tys3 cI cJ cZ) noE (wdX0_faultKind cI cJ cZ q_this q_numbers q_fresh q_told v_faultKind v_faultPlace v_at v_end) [.ref q_this] o (wdX0_faultKind cI cJ cZ q_this q_numbers q_fresh q_told v_faultKind v_faultPlace v_at v_end) := by
  refine ctI plX0 rfl (Nat.le_of_ble_eq_true rfl) ?_
  intro p e s m below meth c A Q S hK hA _ hret H locs hP hD hS ls hl
  replace S : CallFix p m c cX0_faultKind 1 s _ wsX0_faultKind RX0 := S
  generalize ([.ref q_this] : List Value).toArray = args at S hret ⊢
  obtain ⟨hx, hb, hml, hown, hts⟩ := id S
  replace hl : lv_has ls 1 [(0, .ref q_this)] := hl
  unfold shX0_faultKind at hsh
  refine lv_aload_n hx hb dX0_faultKind_0 rfl (lv_at hl 0 rfl) ?_
  refine kget (ci := 0) S hK hP rfl inX0_faultKind_X0 0 rfl 3 (by decide) lkX0_faultKind_22 rfl dX0_faultKind_1 ?_
  have ho := Option.some.inj hsh
  rw [← ho] at hret
  exact hret _ _ _ _ dX0_faultKind_4 hP hD hS

/-! DryWells$Book.faultPlace -/
noncomputable def shX0_faultPlace (v_faultPlace : Int32) : Option (Int32) :=
  some v_faultPlace
def wdX0_faultPlace (cI cJ cZ : ClassId) (q_this q_numbers q_fresh q_told : Nat) (v_faultKind : Int32) (v_faultPlace : Int32) (v_at : Int32) (v_end : Int32) : va_W := [(q_this, .inr (0, [.ref q_numbers, .ref q_fresh, .ref q_told, .int v_faultKind, .int v_faultPlace, .int v_at, .int v_end]))]
abbrev rmX0_faultPlace : Room := { frames := 0, cells := 0, slots := 0, locals := 0 }
theorem inX0_faultPlace_X0 : ∀ w ∈ u_ws RX0 TX0 7, w ∈ wsX0_faultPlace := fun _ h => List.mem_cons_of_mem _ (List.mem_append_right _ h)
theorem lkX0_faultPlace_26 : Cond.fieldLink RX0 26 (TX0 4).1 (TX0 4).2.1 (TX0 4).2.2.1 ∈ wsX0_faultPlace := List.mem_of_getElem? (i := 1) rfl
theorem hdX0_faultPlace : yX0_faultPlace.cls = RX0 ∧ yX0_faultPlace.cls ≠ "java/lang/invoke/MethodHandle" ∧ yX0_faultPlace.cls ≠ "java/lang/invoke/VarHandle" ∧ (parseMethodDescriptor yX0_faultPlace.desc).map (fun d => d.parameters.length) = some 0 := by decide +kernel
set_option maxHeartbeats 4000000 in
set_option maxRecDepth 100000 in
theorem ctX0_faultPlace (l : Launch) (D : va_G) (cI cJ cZ : ClassId) (q_this q_numbers q_fresh q_told : Nat) (v_faultKind : Int32) (v_faultPlace : Int32) (v_at : Int32) (v_end : Int32)  (o : Int32) (hsh : shX0_faultPlace v_faultPlace = some o) : CtI l yX0_faultPlace wsX0_faultPlace rmX0_faultPlace D (tys3 cI cJ cZ) noE (wdX0_faultPlace cI cJ cZ q_this q_numbers q_fresh q_told v_faultKind v_faultPlace v_at v_end) [.ref q_this] o (wdX0_faultPlace cI cJ cZ q_this q_numbers q_fresh q_told v_faultKind v_faultPlace v_at v_end) := by
  refine ctI plX0 rfl (Nat.le_of_ble_eq_true rfl) ?_
  intro p e s m below meth c A Q S hK hA _ hret H locs hP hD hS ls hl
  replace S : CallFix p m c cX0_faultPlace 1 s _ wsX0_faultPlace RX0 := S
  generalize ([.ref q_this] : List Value).toArray = args at S hret ⊢
  obtain ⟨hx, hb, hml, hown, hts⟩ := id S
  replace hl : lv_has ls 1 [(0, .ref q_this)] := hl
  unfold shX0_faultPlace at hsh
  refine lv_aload_n hx hb dX0_faultPlace_0 rfl (lv_at hl 0 rfl) ?_
  refine kget (ci := 0) S hK hP rfl inX0_faultPlace_X0 0 rfl 4 (by decide) lkX0_faultPlace_26 rfl dX0_faultPlace_1 ?_
  have ho := Option.some.inj hsh
  rw [← ho] at hret
  exact hret _ _ _ _ dX0_faultPlace_4 hP hD hS

/-! DryWells$Book.isBlank -/
noncomputable def shX0_isBlank (a0 : Int32) : Option (Int32) :=
  (if a0 = (10 : Int32) then some (1 : Int32) else (if ¬ a0 = (32 : Int32) then some (0 : Int32) else some (1 : Int32)))
def wdX0_isBlank (cI cJ cZ : ClassId)   : va_W := []
abbrev rmX0_isBlank : Room := { frames := 0, cells := 0, slots := 0, locals := 0 }
theorem hdX0_isBlank : yX0_isBlank.cls ≠ "java/lang/invoke/MethodHandle" ∧ yX0_isBlank.cls ≠ "java/lang/invoke/VarHandle" ∧ (parseMethodDescriptor yX0_isBlank.desc).map (fun d => d.parameters.length) = some 1 := by decide +kernel
set_option maxHeartbeats 4000000 in
set_option maxRecDepth 100000 in
theorem ctX0_isBlank (l : Launch) (D : va_G) (cI cJ cZ : ClassId)  (a0 : Int32) (o : Int32) (hsh : shX0_isBlank a0 = some o) : CtI l yX0_isBlank wsX0_isBlank rmX0_isBlank D (tys3 cI cJ cZ) noE (wdX0_isBlank cI cJ cZ ) [.int a0] o (wdX0_isBlank cI cJ cZ ) := by
  refine ctZ plX0 rfl (Nat.le_of_ble_eq_true rfl) ?_
  intro p e s m below meth c A Q S hK hA _ hret H locs hP hD hS ls hl
  replace S : CallFix p m c cX0_isBlank 1 s _ wsX0_isBlank RX0 := S
  generalize ([.int a0] : List Value).toArray = args at S hret ⊢
  obtain ⟨hx, hb, hml, hown, hts⟩ := id S
  replace hl : lv_has ls 1 [(0, .int a0)] := hl
  unfold shX0_isBlank at hsh
  refine lv_iload_n hx hb dX0_isBlank_0 rfl (lv_at hl 0 rfl) ?_
  refine lv_bipush (v := (10 : Int32)) hx hb dX0_isBlank_1 (by decide) ?_
  refine lv_icmp_eq (tgt := 12) hx hb dX0_isBlank_3 (by decide) (fun c1 => ?_) (fun c1 => ?_)
  · skip
    have hsh := ite_t hsh c1
    refine lv_iconst (v := (1 : Int32)) hx hb dX0_isBlank_12 (by decide) ?_
    refine lv_goto (tgt := 17) hx hb dX0_isBlank_13 (by decide) ?_
    have ho := Option.some.inj hsh
    rw [← ho] at hret
    exact hret _ _ _ _ nar1 dX0_isBlank_17 hP hD hS
  · skip
    have hsh := ite_f hsh c1
    refine lv_iload_n hx hb dX0_isBlank_6 rfl (lv_at hl 0 rfl) ?_
    refine lv_bipush (v := (32 : Int32)) hx hb dX0_isBlank_7 (by decide) ?_
    refine lv_icmp_ne (tgt := 16) hx hb dX0_isBlank_9 (by decide) (fun c1 => ?_) (fun c1 => ?_)
    · skip
      have hsh := ite_t hsh c1
      refine lv_iconst (v := (0 : Int32)) hx hb dX0_isBlank_16 (by decide) ?_
      have ho := Option.some.inj hsh
      rw [← ho] at hret
      exact hret _ _ _ _ nar0 dX0_isBlank_17 hP hD hS
    · skip
      have hsh := ite_f hsh (fun h => h c1)
      refine lv_iconst (v := (1 : Int32)) hx hb dX0_isBlank_12 (by decide) ?_
      refine lv_goto (tgt := 17) hx hb dX0_isBlank_13 (by decide) ?_
      have ho := Option.some.inj hsh
      rw [← ho] at hret
      exact hret _ _ _ _ nar1 dX0_isBlank_17 hP hD hS

/-! DryWells$Book.skipBlanks -/
noncomputable def shX0_skipBlanks_j_38 (v_at_j_38 : Int32) : Option (Int32) :=
  some v_at_j_38
noncomputable def shX0_skipBlanks_L0 (v_end : Int32) (v_p1_length : Int32) (w_p1_bytes : Nat → Int32) (v_at_0 : Int32) : Option ((Int32) ⊕ ((Int32))) :=
  (if v_end ≤ v_at_0 then some (Sum.inr v_at_0) else ((shX3_at v_at_0 v_p1_length w_p1_bytes).bind fun o_16 => ((shX0_isBlank o_16).bind fun o_19 => (if o_19 = 0 then some (Sum.inr v_at_0) else some (Sum.inl (v_at_0 + (1 : Int32)))))))
noncomputable def shX0_skipBlanks (v_at : Int32) (v_end : Int32) (v_p1_length : Int32) (w_p1_bytes : Nat → Int32) : Option (Int32) :=
  ((lp (fun s : Int32 => shX0_skipBlanks_L0 v_end v_p1_length w_p1_bytes s) v_at).bind (fun p : Int32 => shX0_skipBlanks_j_38 p))
def wdX0_skipBlanks (cI cJ cZ : ClassId) (q_this q_p1 q_numbers q_fresh q_told q_p1_bytes : Nat) (v_faultKind : Int32) (v_faultPlace : Int32) (v_at : Int32) (v_end : Int32) (v_p1_length : Int32) (w_p1_bytes : Nat → Int32) : va_W := [(q_this, .inr (0, [.ref q_numbers, .ref q_fresh, .ref q_told, .int v_faultKind, .int v_faultPlace, .int v_at, .int v_end])), (q_p1, .inr (3, [.ref q_p1_bytes, .int v_p1_length])), (q_p1_bytes, .inl (cI, 200, .inl w_p1_bytes))]
abbrev rmX0_skipBlanks : Room := { frames := 1, cells := 0, slots := 0, locals := 21 }
theorem inX0_skipBlanks_X0 : ∀ w ∈ u_ws RX0 TX0 7, w ∈ wsX0_skipBlanks := fun _ h => List.mem_cons_of_mem _ (List.mem_append_left _ (List.mem_append_right _ h))
theorem inX0_skipBlanks_X3 : ∀ w ∈ u_ws RX3 TX3 2, w ∈ wsX0_skipBlanks := fun _ h => List.mem_cons_of_mem _ (List.mem_append_right _ h)
theorem lkX0_skipBlanks_29 : Cond.fieldLink RX0 29 (TX0 5).1 (TX0 5).2.1 (TX0 5).2.2.1 ∈ wsX0_skipBlanks := List.mem_of_getElem? (i := 1) rfl
theorem lkX0_skipBlanks_32 : Cond.fieldLink RX0 32 (TX0 6).1 (TX0 6).2.1 (TX0 6).2.2.1 ∈ wsX0_skipBlanks := List.mem_of_getElem? (i := 2) rfl
theorem hdX0_skipBlanks : yX0_skipBlanks.cls = RX0 ∧ yX0_skipBlanks.cls ≠ "java/lang/invoke/MethodHandle" ∧ yX0_skipBlanks.cls ≠ "java/lang/invoke/VarHandle" ∧ (parseMethodDescriptor yX0_skipBlanks.desc).map (fun d => d.parameters.length) = some 1 := by decide +kernel
set_option maxHeartbeats 4000000 in
set_option maxRecDepth 100000 in
theorem ctX0_skipBlanks (l : Launch) (D : va_G) (cI cJ cZ : ClassId) (q_this q_p1 q_numbers q_fresh q_told q_p1_bytes : Nat) (v_faultKind : Int32) (v_faultPlace : Int32) (v_at : Int32) (v_end : Int32) (v_p1_length : Int32) (w_p1_bytes : Nat → Int32)  (o : Int32) (hsh : shX0_skipBlanks v_at v_end v_p1_length w_p1_bytes = some o) : CtV l yX0_skipBlanks wsX0_skipBlanks rmX0_skipBlanks D (tys3 cI cJ cZ) noE (wdX0_skipBlanks cI cJ cZ q_this q_p1 q_numbers q_fresh q_told q_p1_bytes v_faultKind v_faultPlace v_at v_end v_p1_length w_p1_bytes) [.ref q_this, .ref q_p1]  (wdX0_skipBlanks cI cJ cZ q_this q_p1 q_numbers q_fresh q_told q_p1_bytes v_faultKind v_faultPlace o v_end v_p1_length w_p1_bytes) := by
  refine ctV plX0 rfl (Nat.le_of_ble_eq_true rfl) ?_
  intro p e s m below meth c A Q S hK hA _ hret H locs hP hD hS ls hl
  replace S : CallFix p m c cX0_skipBlanks 2 s _ wsX0_skipBlanks RX0 := S
  generalize ([.ref q_this, .ref q_p1] : List Value).toArray = args at S hret ⊢
  obtain ⟨hx, hb, hml, hown, hts⟩ := id S
  replace hl : lv_has ls 2 [(0, .ref q_this), (1, .ref q_p1)] := hl
  unfold shX0_skipBlanks at hsh
  have Jj_38 : ∀ (v_at_j_38 : Int32) (H : Heap) (locs : List Loc), va_P D vwCl (wdX0_skipBlanks cI cJ cZ q_this q_p1 q_numbers q_fresh q_told q_p1_bytes v_faultKind v_faultPlace v_at_j_38 v_end v_p1_length w_p1_bytes) H → va_D A (wdX0_skipBlanks cI cJ cZ q_this q_p1 q_numbers q_fresh q_told q_p1_bytes v_faultKind v_faultPlace v_at_j_38 v_end v_p1_length w_p1_bytes) → va_S A s.heap H locs → ∀ ls : Array Slot, lv_has ls 2 [] → shX0_skipBlanks_j_38 v_at_j_38 = some o → W p l e rmX0_skipBlanks s m args below meth c H locs 0 0 Q (F0 m 38 ls []) := by
    intro v_at_j_38 H locs hP hD hS ls hl hsh
    unfold shX0_skipBlanks_j_38 at hsh
    have ho := Option.some.inj hsh
    rw [← ho] at hret
    exact hret _ _ _ _ dX0_skipBlanks_38 hP hD hS
  obtain ⟨r_0, hl_0, hk_0⟩ := bd hsh
  obtain ⟨n_0, hn_0⟩ := lp_iff.mp hl_0
  have L_0 : ∀ (n : Nat) (v_at_0 : Int32) (H : Heap) (locs : List Loc), va_P D vwCl (wdX0_skipBlanks cI cJ cZ q_this q_p1 q_numbers q_fresh q_told q_p1_bytes v_faultKind v_faultPlace v_at_0 v_end v_p1_length w_p1_bytes) H → va_D A (wdX0_skipBlanks cI cJ cZ q_this q_p1 q_numbers q_fresh q_told q_p1_bytes v_faultKind v_faultPlace v_at_0 v_end v_p1_length w_p1_bytes) → va_S A s.heap H locs → ∀ ls : Array Slot, lv_has ls 2 [(0, .ref q_this), (1, .ref q_p1)] → it (fun s : Int32 => shX0_skipBlanks_L0 v_end v_p1_length w_p1_bytes s) n v_at_0 = some r_0 → W p l e rmX0_skipBlanks s m args below meth c H locs 0 0 Q (F0 m 0 ls []) := by
    intro n
    induction n with
    | zero => exact fun _ _ _ _ _ _ _ _ hi => it_0 hi
    | succ n ih_0 =>
      intro v_at_0 H locs hP hD hS ls hl hi
      obtain ⟨b_0, hsh, hB1_0, hB2_0⟩ := it_b hi
      replace hsh : shX0_skipBlanks_L0 v_end v_p1_length w_p1_bytes v_at_0 = some b_0 := hsh
      unfold shX0_skipBlanks_L0 at hsh
      refine lv_aload_n hx hb dX0_skipBlanks_0 rfl (lv_at hl 0 rfl) ?_
      refine kget (ci := 0) S hK hP rfl inX0_skipBlanks_X0 0 rfl 5 (by decide) lkX0_skipBlanks_29 rfl dX0_skipBlanks_1 ?_
      refine lv_aload_n hx hb dX0_skipBlanks_4 rfl (lv_at hl 0 rfl) ?_
      refine kget (ci := 0) S hK hP rfl inX0_skipBlanks_X0 0 rfl 6 (by decide) lkX0_skipBlanks_32 rfl dX0_skipBlanks_5 ?_
      refine lv_icmp_ge (tgt := 38) hx hb dX0_skipBlanks_8 (by decide) (fun c1 => ?_) (fun c1 => ?_)
      · skip
        have hsh := ite_t hsh c1
        have he := hB2_0 _ hsh
        rw [← he] at hk_0
        exact Jj_38 v_at_0 H locs hP hD hS ls (lv_sub hl [] rfl) hk_0
      · skip
        have hsh := ite_f hsh c1
        refine lv_aload_n hx hb dX0_skipBlanks_11 rfl (lv_at hl 1 rfl) ?_
        refine lv_aload_n hx hb dX0_skipBlanks_12 rfl (lv_at hl 0 rfl) ?_
        refine kget (ci := 0) S hK hP rfl inX0_skipBlanks_X0 0 rfl 5 (by decide) lkX0_skipBlanks_29 rfl dX0_skipBlanks_13 ?_
        obtain ⟨o_16, he, hsh⟩ := bd hsh
        refine kVi (ci := 3) S hK hA (ctX3_at l D cI cJ cZ q_p1 q_p1_bytes v_p1_length w_p1_bytes v_at_0 o_16 he) noE_bl (cwV 1 hts gX0_skipBlanks_X3_at rfl rfl rfl hdX3_at ⟨Nat.le_of_ble_eq_true rfl, Nat.le_of_ble_eq_true rfl⟩) rfl 0 rfl [1, 2] [0] [0, 1, 2] (ws' := (wdX0_skipBlanks cI cJ cZ q_this q_p1 q_numbers q_fresh q_told q_p1_bytes v_faultKind v_faultPlace v_at_0 v_end v_p1_length w_p1_bytes)) ⟨rfl, rfl, rfl, rfl, rfl, rfl, rfl⟩ (fun _ _ => trivial) rfl hl.1 rfl (Nat.le_of_ble_eq_true rfl) dX0_skipBlanks_16 hP hD hS (fun H locs hP hD hS => ?_)
        obtain ⟨o_19, he, hsh⟩ := bd hsh
        refine kSi S hK hA (ctX0_isBlank l D cI cJ cZ o_16 o_19 he) noE_bl (va_cwS 1 hts gX0_skipBlanks_X0_isBlank rfl rfl rfl hdX0_isBlank ⟨Nat.le_of_ble_eq_true rfl, Nat.le_of_ble_eq_true rfl⟩) [] [0, 1, 2] [0, 1, 2] (ws' := (wdX0_skipBlanks cI cJ cZ q_this q_p1 q_numbers q_fresh q_told q_p1_bytes v_faultKind v_faultPlace v_at_0 v_end v_p1_length w_p1_bytes)) ⟨rfl, rfl, rfl, rfl, rfl, rfl, rfl⟩ (fun _ _ => trivial) rfl hl.1 rfl (Nat.le_of_ble_eq_true rfl) dX0_skipBlanks_19 hP hD hS (fun H locs hP hD hS => ?_)
        refine lv_if_eq (tgt := 38) hx hb dX0_skipBlanks_22 (by decide) (fun c1 => ?_) (fun c1 => ?_)
        · skip
          have hsh := ite_t hsh c1
          have he := hB2_0 _ hsh
          rw [← he] at hk_0
          exact Jj_38 v_at_0 H locs hP hD hS ls (lv_sub hl [] rfl) hk_0
        · skip
          have hsh := ite_f hsh c1
          refine lv_aload_n hx hb dX0_skipBlanks_25 rfl (lv_at hl 0 rfl) ?_
          refine lv_dup hx hb dX0_skipBlanks_26 rfl ?_
          refine kget (ci := 0) S hK hP rfl inX0_skipBlanks_X0 0 rfl 5 (by decide) lkX0_skipBlanks_29 rfl dX0_skipBlanks_27 ?_
          refine lv_iconst (v := (1 : Int32)) hx hb dX0_skipBlanks_30 (by decide) ?_
          refine lv_iadd hx hb dX0_skipBlanks_31 ?_
          refine kput (ci := 0) S hK hP hD hS rfl inX0_skipBlanks_X0 tyX0_ok nmX0 0 rfl 5 (by decide) lkX0_skipBlanks_29 rfl rfl rfl (Nat.le_of_ble_eq_true rfl) (ws' := (wdX0_skipBlanks cI cJ cZ q_this q_p1 q_numbers q_fresh q_told q_p1_bytes v_faultKind v_faultPlace (v_at_0 + (1 : Int32)) v_end v_p1_length w_p1_bytes)) rfl dX0_skipBlanks_32 (fun H locs hP hD hS => ?_)
          refine lv_goto (tgt := 0) hx hb dX0_skipBlanks_35 (by decide) ?_
          exact ih_0 (v_at_0 + (1 : Int32)) H locs hP hD hS ls (lv_sub hl [0, 1] rfl) (hB1_0 _ hsh)
  exact L_0 n_0 v_at H locs hP hD hS ls (lv_sub hl [0, 1] rfl) hn_0

/-! DryWells$Book.fail -/
noncomputable def shX0_fail (a1 : Int32) (a2 : Int32) (v_faultKind : Int32) (v_faultPlace : Int32) : Option (Int32 × Int32 × Int32) :=
  some ((0 : Int32), a1, a2)
def wdX0_fail (cI cJ cZ : ClassId) (q_this q_numbers q_fresh q_told : Nat) (v_faultKind : Int32) (v_faultPlace : Int32) (v_at : Int32) (v_end : Int32) : va_W := [(q_this, .inr (0, [.ref q_numbers, .ref q_fresh, .ref q_told, .int v_faultKind, .int v_faultPlace, .int v_at, .int v_end]))]
abbrev rmX0_fail : Room := { frames := 0, cells := 0, slots := 0, locals := 0 }
theorem inX0_fail_X0 : ∀ w ∈ u_ws RX0 TX0 7, w ∈ wsX0_fail := fun _ h => List.mem_cons_of_mem _ (List.mem_append_right _ h)
theorem lkX0_fail_22 : Cond.fieldLink RX0 22 (TX0 3).1 (TX0 3).2.1 (TX0 3).2.2.1 ∈ wsX0_fail := List.mem_of_getElem? (i := 1) rfl
theorem lkX0_fail_26 : Cond.fieldLink RX0 26 (TX0 4).1 (TX0 4).2.1 (TX0 4).2.2.1 ∈ wsX0_fail := List.mem_of_getElem? (i := 2) rfl
theorem hdX0_fail : yX0_fail.cls = RX0 ∧ yX0_fail.cls ≠ "java/lang/invoke/MethodHandle" ∧ yX0_fail.cls ≠ "java/lang/invoke/VarHandle" ∧ (parseMethodDescriptor yX0_fail.desc).map (fun d => d.parameters.length) = some 2 := by decide +kernel
set_option maxHeartbeats 4000000 in
set_option maxRecDepth 100000 in
theorem ctX0_fail (l : Launch) (D : va_G) (cI cJ cZ : ClassId) (q_this q_numbers q_fresh q_told : Nat) (v_faultKind : Int32) (v_faultPlace : Int32) (v_at : Int32) (v_end : Int32) (a1 : Int32) (a2 : Int32) (o : Int32 × Int32 × Int32) (hsh : shX0_fail a1 a2 v_faultKind v_faultPlace = some o) : CtI l yX0_fail wsX0_fail rmX0_fail D (tys3 cI cJ cZ) noE (wdX0_fail cI cJ cZ q_this q_numbers q_fresh q_told v_faultKind v_faultPlace v_at v_end) [.ref q_this, .int a1, .int a2] o.1 (wdX0_fail cI cJ cZ q_this q_numbers q_fresh q_told o.2.1 o.2.2 v_at v_end) := by
  refine ctZ plX0 rfl (Nat.le_of_ble_eq_true rfl) ?_
  intro p e s m below meth c A Q S hK hA _ hret H locs hP hD hS ls hl
  replace S : CallFix p m c cX0_fail 3 s _ wsX0_fail RX0 := S
  generalize ([.ref q_this, .int a1, .int a2] : List Value).toArray = args at S hret ⊢
  obtain ⟨hx, hb, hml, hown, hts⟩ := id S
  replace hl : lv_has ls 3 [(0, .ref q_this), (1, .int a1), (2, .int a2)] := hl
  unfold shX0_fail at hsh
  refine lv_aload_n hx hb dX0_fail_0 rfl (lv_at hl 0 rfl) ?_
  refine lv_iload_n hx hb dX0_fail_1 rfl (lv_at hl 1 rfl) ?_
  refine kput (ci := 0) S hK hP hD hS rfl inX0_fail_X0 tyX0_ok nmX0 0 rfl 3 (by decide) lkX0_fail_22 rfl rfl rfl (Nat.le_of_ble_eq_true rfl) (ws' := (wdX0_fail cI cJ cZ q_this q_numbers q_fresh q_told a1 v_faultPlace v_at v_end)) rfl dX0_fail_2 (fun H locs hP hD hS => ?_)
  refine lv_aload_n hx hb dX0_fail_5 rfl (lv_at hl 0 rfl) ?_
  refine lv_iload_n hx hb dX0_fail_6 rfl (lv_at hl 2 rfl) ?_
  refine kput (ci := 0) S hK hP hD hS rfl inX0_fail_X0 tyX0_ok nmX0 0 rfl 4 (by decide) lkX0_fail_26 rfl rfl rfl (Nat.le_of_ble_eq_true rfl) (ws' := (wdX0_fail cI cJ cZ q_this q_numbers q_fresh q_told a1 a2 v_at v_end)) rfl dX0_fail_7 (fun H locs hP hD hS => ?_)
  refine lv_iconst (v := (0 : Int32)) hx hb dX0_fail_10 (by decide) ?_
  have ho := Option.some.inj hsh
  rw [← ho] at hret
  exact hret _ _ _ _ nar0 dX0_fail_11 hP hD hS

/-! DryWells$Book.readEnd -/
noncomputable def shX0_readEnd_j_29 (v_faultKind : Int32) (v_faultPlace : Int32) (v_at_j_29 : Int32) : Option (Int32 × Int32 × Int32 × Int32) :=
  ((shX0_fail (1 : Int32) v_at_j_29 v_faultKind v_faultPlace).bind fun o_35 => ((gz o_35.1).bind fun _ => some (o_35.1, o_35.2.1, o_35.2.2, v_at_j_29)))
noncomputable def shX0_readEnd (v_faultKind : Int32) (v_faultPlace : Int32) (v_at : Int32) (v_end : Int32) (v_p1_length : Int32) (w_p1_bytes : Nat → Int32) : Option (Int32 × Int32 × Int32 × Int32) :=
  ((shX0_skipBlanks v_at v_end v_p1_length w_p1_bytes).bind fun o_2 => (if v_end ≤ o_2 then (shX0_readEnd_j_29 v_faultKind v_faultPlace o_2) else ((shX3_at o_2 v_p1_length w_p1_bytes).bind fun o_21 => (if o_21 = (59 : Int32) then some ((1 : Int32), v_faultKind, v_faultPlace, (o_2 + (1 : Int32))) else (shX0_readEnd_j_29 v_faultKind v_faultPlace o_2)))))
def wdX0_readEnd (cI cJ cZ : ClassId) (q_this q_p1 q_numbers q_fresh q_told q_p1_bytes : Nat) (v_faultKind : Int32) (v_faultPlace : Int32) (v_at : Int32) (v_end : Int32) (v_p1_length : Int32) (w_p1_bytes : Nat → Int32) : va_W := [(q_this, .inr (0, [.ref q_numbers, .ref q_fresh, .ref q_told, .int v_faultKind, .int v_faultPlace, .int v_at, .int v_end])), (q_p1, .inr (3, [.ref q_p1_bytes, .int v_p1_length])), (q_p1_bytes, .inl (cI, 200, .inl w_p1_bytes))]
abbrev rmX0_readEnd : Room := { frames := 2, cells := 0, slots := 0, locals := 42 }
theorem inX0_readEnd_X0 : ∀ w ∈ u_ws RX0 TX0 7, w ∈ wsX0_readEnd := fun _ h => List.mem_cons_of_mem _ (List.mem_append_left _ (List.mem_append_right _ h))
theorem inX0_readEnd_X3 : ∀ w ∈ u_ws RX3 TX3 2, w ∈ wsX0_readEnd := fun _ h => List.mem_cons_of_mem _ (List.mem_append_right _ h)
theorem lkX0_readEnd_29 : Cond.fieldLink RX0 29 (TX0 5).1 (TX0 5).2.1 (TX0 5).2.2.1 ∈ wsX0_readEnd := List.mem_of_getElem? (i := 1) rfl
theorem lkX0_readEnd_32 : Cond.fieldLink RX0 32 (TX0 6).1 (TX0 6).2.1 (TX0 6).2.2.1 ∈ wsX0_readEnd := List.mem_of_getElem? (i := 2) rfl
theorem hdX0_readEnd : yX0_readEnd.cls = RX0 ∧ yX0_readEnd.cls ≠ "java/lang/invoke/MethodHandle" ∧ yX0_readEnd.cls ≠ "java/lang/invoke/VarHandle" ∧ (parseMethodDescriptor yX0_readEnd.desc).map (fun d => d.parameters.length) = some 1 := by decide +kernel
set_option maxHeartbeats 4000000 in
set_option maxRecDepth 100000 in
theorem ctX0_readEnd (l : Launch) (D : va_G) (cI cJ cZ : ClassId) (q_this q_p1 q_numbers q_fresh q_told q_p1_bytes : Nat) (v_faultKind : Int32) (v_faultPlace : Int32) (v_at : Int32) (v_end : Int32) (v_p1_length : Int32) (w_p1_bytes : Nat → Int32)  (o : Int32 × Int32 × Int32 × Int32) (hsh : shX0_readEnd v_faultKind v_faultPlace v_at v_end v_p1_length w_p1_bytes = some o) : CtI l yX0_readEnd wsX0_readEnd rmX0_readEnd D (tys3 cI cJ cZ) noE (wdX0_readEnd cI cJ cZ q_this q_p1 q_numbers q_fresh q_told q_p1_bytes v_faultKind v_faultPlace v_at v_end v_p1_length w_p1_bytes) [.ref q_this, .ref q_p1] o.1 (wdX0_readEnd cI cJ cZ q_this q_p1 q_numbers q_fresh q_told q_p1_bytes o.2.1 o.2.2.1 o.2.2.2 v_end v_p1_length w_p1_bytes) := by
  refine ctZ plX0 rfl (Nat.le_of_ble_eq_true rfl) ?_
  intro p e s m below meth c A Q S hK hA _ hret H locs hP hD hS ls hl
  replace S : CallFix p m c cX0_readEnd 2 s _ wsX0_readEnd RX0 := S
  generalize ([.ref q_this, .ref q_p1] : List Value).toArray = args at S hret ⊢
  obtain ⟨hx, hb, hml, hown, hts⟩ := id S
  replace hl : lv_has ls 2 [(0, .ref q_this), (1, .ref q_p1)] := hl
  unfold shX0_readEnd at hsh
  have Jj_29 : ∀ (v_at_j_29 : Int32) (H : Heap) (locs : List Loc), va_P D vwCl (wdX0_readEnd cI cJ cZ q_this q_p1 q_numbers q_fresh q_told q_p1_bytes v_faultKind v_faultPlace v_at_j_29 v_end v_p1_length w_p1_bytes) H → va_D A (wdX0_readEnd cI cJ cZ q_this q_p1 q_numbers q_fresh q_told q_p1_bytes v_faultKind v_faultPlace v_at_j_29 v_end v_p1_length w_p1_bytes) → va_S A s.heap H locs → ∀ ls : Array Slot, lv_has ls 2 [(0, .ref q_this)] → shX0_readEnd_j_29 v_faultKind v_faultPlace v_at_j_29 = some o → W p l e rmX0_readEnd s m args below meth c H locs 0 0 Q (F0 m 29 ls []) := by
    intro v_at_j_29 H locs hP hD hS ls hl hsh
    unfold shX0_readEnd_j_29 at hsh
    refine lv_aload_n hx hb dX0_readEnd_29 rfl (lv_at hl 0 rfl) ?_
    refine lv_iconst (v := (1 : Int32)) hx hb dX0_readEnd_30 (by decide) ?_
    refine lv_aload_n hx hb dX0_readEnd_31 rfl (lv_at hl 0 rfl) ?_
    refine kget (ci := 0) S hK hP rfl inX0_readEnd_X0 0 rfl 5 (by decide) lkX0_readEnd_29 rfl dX0_readEnd_32 ?_
    obtain ⟨o_35, he, hsh⟩ := bd hsh
    refine kVi (ci := 0) S hK hA (ctX0_fail l D cI cJ cZ q_this q_numbers q_fresh q_told v_faultKind v_faultPlace v_at_j_29 v_end (1 : Int32) v_at_j_29 o_35 he) noE_bl (cwV 2 hts gX0_readEnd_X0_fail rfl rfl rfl hdX0_fail ⟨Nat.le_of_ble_eq_true rfl, Nat.le_of_ble_eq_true rfl⟩) rfl 0 rfl [0] [1, 2] [2, 0, 1] (ws' := (wdX0_readEnd cI cJ cZ q_this q_p1 q_numbers q_fresh q_told q_p1_bytes o_35.2.1 o_35.2.2 v_at_j_29 v_end v_p1_length w_p1_bytes)) ⟨rfl, rfl, rfl, rfl, rfl, rfl, rfl⟩ (fun _ _ => trivial) rfl hl.1 rfl (Nat.le_of_ble_eq_true rfl) dX0_readEnd_35 hP hD hS (fun H locs hP hD hS => ?_)
    obtain ⟨_, hz, hsh⟩ := bd hsh
    have ho := Option.some.inj hsh
    rw [← ho] at hret
    exact hret _ _ _ _ (gz_nar hz) dX0_readEnd_38 hP hD hS
  refine lv_aload_n hx hb dX0_readEnd_0 rfl (lv_at hl 0 rfl) ?_
  refine lv_aload_n hx hb dX0_readEnd_1 rfl (lv_at hl 1 rfl) ?_
  obtain ⟨o_2, he, hsh⟩ := bd hsh
  refine kVv (ci := 0) S hK hA (ctX0_skipBlanks l D cI cJ cZ q_this q_p1 q_numbers q_fresh q_told q_p1_bytes v_faultKind v_faultPlace v_at v_end v_p1_length w_p1_bytes o_2 he) noE_bl (cwV 1 hts gX0_readEnd_X0_skipBlanks rfl rfl rfl hdX0_skipBlanks ⟨Nat.le_of_ble_eq_true rfl, Nat.le_of_ble_eq_true rfl⟩) rfl 0 rfl [0, 1, 2] [] [0, 1, 2] (ws' := (wdX0_readEnd cI cJ cZ q_this q_p1 q_numbers q_fresh q_told q_p1_bytes v_faultKind v_faultPlace o_2 v_end v_p1_length w_p1_bytes)) ⟨rfl, rfl, rfl, rfl, rfl, rfl, rfl⟩ (fun _ _ => trivial) rfl hl.1 rfl (Nat.le_of_ble_eq_true rfl) dX0_readEnd_2 hP hD hS (fun H locs hP hD hS => ?_)
  refine lv_aload_n hx hb dX0_readEnd_5 rfl (lv_at hl 0 rfl) ?_
  refine kget (ci := 0) S hK hP rfl inX0_readEnd_X0 0 rfl 5 (by decide) lkX0_readEnd_29 rfl dX0_readEnd_6 ?_
  refine lv_aload_n hx hb dX0_readEnd_9 rfl (lv_at hl 0 rfl) ?_
  refine kget (ci := 0) S hK hP rfl inX0_readEnd_X0 0 rfl 6 (by decide) lkX0_readEnd_32 rfl dX0_readEnd_10 ?_
  refine lv_icmp_ge (tgt := 29) hx hb dX0_readEnd_13 (by decide) (fun c1 => ?_) (fun c1 => ?_)
  · skip
    have hsh := ite_t hsh c1
    exact Jj_29 o_2 H locs hP hD hS ls (lv_sub hl [0] rfl) hsh
  · skip
    have hsh := ite_f hsh c1
    refine lv_aload_n hx hb dX0_readEnd_16 rfl (lv_at hl 1 rfl) ?_
    refine lv_aload_n hx hb dX0_readEnd_17 rfl (lv_at hl 0 rfl) ?_
    refine kget (ci := 0) S hK hP rfl inX0_readEnd_X0 0 rfl 5 (by decide) lkX0_readEnd_29 rfl dX0_readEnd_18 ?_
    obtain ⟨o_21, he, hsh⟩ := bd hsh
    refine kVi (ci := 3) S hK hA (ctX3_at l D cI cJ cZ q_p1 q_p1_bytes v_p1_length w_p1_bytes o_2 o_21 he) noE_bl (cwV 1 hts gX0_readEnd_X3_at rfl rfl rfl hdX3_at ⟨Nat.le_of_ble_eq_true rfl, Nat.le_of_ble_eq_true rfl⟩) rfl 0 rfl [1, 2] [0] [0, 1, 2] (ws' := (wdX0_readEnd cI cJ cZ q_this q_p1 q_numbers q_fresh q_told q_p1_bytes v_faultKind v_faultPlace o_2 v_end v_p1_length w_p1_bytes)) ⟨rfl, rfl, rfl, rfl, rfl, rfl, rfl⟩ (fun _ _ => trivial) rfl hl.1 rfl (Nat.le_of_ble_eq_true rfl) dX0_readEnd_21 hP hD hS (fun H locs hP hD hS => ?_)
    refine lv_bipush (v := (59 : Int32)) hx hb dX0_readEnd_24 (by decide) ?_
    refine lv_icmp_eq (tgt := 39) hx hb dX0_readEnd_26 (by decide) (fun c1 => ?_) (fun c1 => ?_)
    · skip
      have hsh := ite_t hsh c1
      refine lv_aload_n hx hb dX0_readEnd_39 rfl (lv_at hl 0 rfl) ?_
      refine lv_dup hx hb dX0_readEnd_40 rfl ?_
      refine kget (ci := 0) S hK hP rfl inX0_readEnd_X0 0 rfl 5 (by decide) lkX0_readEnd_29 rfl dX0_readEnd_41 ?_
      refine lv_iconst (v := (1 : Int32)) hx hb dX0_readEnd_44 (by decide) ?_
      refine lv_iadd hx hb dX0_readEnd_45 ?_
      refine kput (ci := 0) S hK hP hD hS rfl inX0_readEnd_X0 tyX0_ok nmX0 0 rfl 5 (by decide) lkX0_readEnd_29 rfl rfl rfl (Nat.le_of_ble_eq_true rfl) (ws' := (wdX0_readEnd cI cJ cZ q_this q_p1 q_numbers q_fresh q_told q_p1_bytes v_faultKind v_faultPlace (o_2 + (1 : Int32)) v_end v_p1_length w_p1_bytes)) rfl dX0_readEnd_46 (fun H locs hP hD hS => ?_)
      refine lv_iconst (v := (1 : Int32)) hx hb dX0_readEnd_49 (by decide) ?_
      have ho := Option.some.inj hsh
      rw [← ho] at hret
      exact hret _ _ _ _ nar1 dX0_readEnd_50 hP hD hS
    · skip
      have hsh := ite_f hsh c1
      exact Jj_29 o_2 H locs hP hD hS ls (lv_sub hl [0] rfl) hsh

/-! DryWells$Book.isLetter -/
noncomputable def shX0_isLetter (a0 : Int32) : Option (Int32) :=
  (if a0 < (97 : Int32) then some (0 : Int32) else (if (122 : Int32) < a0 then some (0 : Int32) else some (1 : Int32)))
def wdX0_isLetter (cI cJ cZ : ClassId)   : va_W := []
abbrev rmX0_isLetter : Room := { frames := 0, cells := 0, slots := 0, locals := 0 }
theorem hdX0_isLetter : yX0_isLetter.cls ≠ "java/lang/invoke/MethodHandle" ∧ yX0_isLetter.cls ≠ "java/lang/invoke/VarHandle" ∧ (parseMethodDescriptor yX0_isLetter.desc).map (fun d => d.parameters.length) = some 1 := by decide +kernel
set_option maxHeartbeats 4000000 in
set_option maxRecDepth 100000 in
theorem ctX0_isLetter (l : Launch) (D : va_G) (cI cJ cZ : ClassId)  (a0 : Int32) (o : Int32) (hsh : shX0_isLetter a0 = some o) : CtI l yX0_isLetter wsX0_isLetter rmX0_isLetter D (tys3 cI cJ cZ) noE (wdX0_isLetter cI cJ cZ ) [.int a0] o (wdX0_isLetter cI cJ cZ ) := by
  refine ctZ plX0 rfl (Nat.le_of_ble_eq_true rfl) ?_
  intro p e s m below meth c A Q S hK hA _ hret H locs hP hD hS ls hl
  replace S : CallFix p m c cX0_isLetter 1 s _ wsX0_isLetter RX0 := S
  generalize ([.int a0] : List Value).toArray = args at S hret ⊢
  obtain ⟨hx, hb, hml, hown, hts⟩ := id S
  replace hl : lv_has ls 1 [(0, .int a0)] := hl
  unfold shX0_isLetter at hsh
  refine lv_iload_n hx hb dX0_isLetter_0 rfl (lv_at hl 0 rfl) ?_
  refine lv_bipush (v := (97 : Int32)) hx hb dX0_isLetter_1 (by decide) ?_
  refine lv_icmp_lt (tgt := 16) hx hb dX0_isLetter_3 (by decide) (fun c1 => ?_) (fun c1 => ?_)
  · skip
    have hsh := ite_t hsh c1
    refine lv_iconst (v := (0 : Int32)) hx hb dX0_isLetter_16 (by decide) ?_
    have ho := Option.some.inj hsh
    rw [← ho] at hret
    exact hret _ _ _ _ nar0 dX0_isLetter_17 hP hD hS
  · skip
    have hsh := ite_f hsh c1
    refine lv_iload_n hx hb dX0_isLetter_6 rfl (lv_at hl 0 rfl) ?_
    refine lv_bipush (v := (122 : Int32)) hx hb dX0_isLetter_7 (by decide) ?_
    refine lv_icmp_gt (tgt := 16) hx hb dX0_isLetter_9 (by decide) (fun c1 => ?_) (fun c1 => ?_)
    · skip
      have hsh := ite_t hsh c1
      refine lv_iconst (v := (0 : Int32)) hx hb dX0_isLetter_16 (by decide) ?_
      have ho := Option.some.inj hsh
      rw [← ho] at hret
      exact hret _ _ _ _ nar0 dX0_isLetter_17 hP hD hS
    · skip
      have hsh := ite_f hsh c1
      refine lv_iconst (v := (1 : Int32)) hx hb dX0_isLetter_12 (by decide) ?_
      refine lv_goto (tgt := 17) hx hb dX0_isLetter_13 (by decide) ?_
      have ho := Option.some.inj hsh
      rw [← ho] at hret
      exact hret _ _ _ _ nar1 dX0_isLetter_17 hP hD hS

/-! DryWells$Book.isDigit -/
noncomputable def shX0_isDigit (a0 : Int32) : Option (Int32) :=
  (if a0 < (48 : Int32) then some (0 : Int32) else (if (57 : Int32) < a0 then some (0 : Int32) else some (1 : Int32)))
def wdX0_isDigit (cI cJ cZ : ClassId)   : va_W := []
abbrev rmX0_isDigit : Room := { frames := 0, cells := 0, slots := 0, locals := 0 }
theorem hdX0_isDigit : yX0_isDigit.cls ≠ "java/lang/invoke/MethodHandle" ∧ yX0_isDigit.cls ≠ "java/lang/invoke/VarHandle" ∧ (parseMethodDescriptor yX0_isDigit.desc).map (fun d => d.parameters.length) = some 1 := by decide +kernel
set_option maxHeartbeats 4000000 in
set_option maxRecDepth 100000 in
theorem ctX0_isDigit (l : Launch) (D : va_G) (cI cJ cZ : ClassId)  (a0 : Int32) (o : Int32) (hsh : shX0_isDigit a0 = some o) : CtI l yX0_isDigit wsX0_isDigit rmX0_isDigit D (tys3 cI cJ cZ) noE (wdX0_isDigit cI cJ cZ ) [.int a0] o (wdX0_isDigit cI cJ cZ ) := by
  refine ctZ plX0 rfl (Nat.le_of_ble_eq_true rfl) ?_
  intro p e s m below meth c A Q S hK hA _ hret H locs hP hD hS ls hl
  replace S : CallFix p m c cX0_isDigit 1 s _ wsX0_isDigit RX0 := S
  generalize ([.int a0] : List Value).toArray = args at S hret ⊢
  obtain ⟨hx, hb, hml, hown, hts⟩ := id S
  replace hl : lv_has ls 1 [(0, .int a0)] := hl
  unfold shX0_isDigit at hsh
  refine lv_iload_n hx hb dX0_isDigit_0 rfl (lv_at hl 0 rfl) ?_
  refine lv_bipush (v := (48 : Int32)) hx hb dX0_isDigit_1 (by decide) ?_
  refine lv_icmp_lt (tgt := 16) hx hb dX0_isDigit_3 (by decide) (fun c1 => ?_) (fun c1 => ?_)
  · skip
    have hsh := ite_t hsh c1
    refine lv_iconst (v := (0 : Int32)) hx hb dX0_isDigit_16 (by decide) ?_
    have ho := Option.some.inj hsh
    rw [← ho] at hret
    exact hret _ _ _ _ nar0 dX0_isDigit_17 hP hD hS
  · skip
    have hsh := ite_f hsh c1
    refine lv_iload_n hx hb dX0_isDigit_6 rfl (lv_at hl 0 rfl) ?_
    refine lv_bipush (v := (57 : Int32)) hx hb dX0_isDigit_7 (by decide) ?_
    refine lv_icmp_gt (tgt := 16) hx hb dX0_isDigit_9 (by decide) (fun c1 => ?_) (fun c1 => ?_)
    · skip
      have hsh := ite_t hsh c1
      refine lv_iconst (v := (0 : Int32)) hx hb dX0_isDigit_16 (by decide) ?_
      have ho := Option.some.inj hsh
      rw [← ho] at hret
      exact hret _ _ _ _ nar0 dX0_isDigit_17 hP hD hS
    · skip
      have hsh := ite_f hsh c1
      refine lv_iconst (v := (1 : Int32)) hx hb dX0_isDigit_12 (by decide) ?_
      refine lv_goto (tgt := 17) hx hb dX0_isDigit_13 (by decide) ?_
      have ho := Option.some.inj hsh
      rw [← ho] at hret
      exact hret _ _ _ _ nar1 dX0_isDigit_17 hP hD hS
