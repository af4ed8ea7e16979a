/-! DryWells$Rocks.isPrior -/
noncomputable def shX2_isPrior (a0 : Int32) : Option (Int32) :=
  (if a0 < (1 : Int32) then some (0 : Int32) else (if (99 : Int32) < a0 then some (0 : Int32) else some (1 : Int32)))
def wdX2_isPrior (cI cJ cZ : ClassId)   : va_W := []
abbrev rmX2_isPrior : Room := { frames := 0, cells := 0, slots := 0, locals := 0 }
theorem hdX2_isPrior : yX2_isPrior.cls ≠ "java/lang/invoke/MethodHandle" ∧ yX2_isPrior.cls ≠ "java/lang/invoke/VarHandle" ∧ (parseMethodDescriptor yX2_isPrior.desc).map (fun d => d.parameters.length) = some 1 := by decide +kernel
set_option maxHeartbeats 4000000 in
set_option maxRecDepth 100000 in
theorem ctX2_isPrior (l : Launch) (D : va_G) (cI cJ cZ : ClassId)  (a0 : Int32) (o : Int32) (hsh : shX2_isPrior a0 = some o) : CtI l yX2_isPrior wsX2_isPrior rmX2_isPrior D (tys3 cI cJ cZ) noE (wdX2_isPrior cI cJ cZ ) [.int a0] o (wdX2_isPrior cI cJ cZ ) := by
  refine ctZ plX2 rfl (Nat.le_of_ble_eq_true rfl) ?_
  intro p e s m below meth c A Q S hK hA hE hret H locs hP hD hS ls hl
  replace S : CallFix p m c cX2_isPrior 1 s _ wsX2_isPrior RX2 := S
  generalize ([.int a0] : List Value).toArray = args at S hret ⊢
  obtain ⟨hx, hb, hml, hown, hts⟩ := id S
  replace hl : lv_has ls 1 [(0, .int a0)] := hl
  unfold shX2_isPrior at hsh
  refine lv_iload_n hx hb dX2_isPrior_0 rfl (lv_at hl 0 rfl) ?_
  refine lv_iconst (v := (1 : Int32)) hx hb dX2_isPrior_1 (by decide) ?_
  refine lv_icmp_lt (tgt := 15) hx hb dX2_isPrior_2 (by decide) (fun c1 => ?_) (fun c1 => ?_)
  · skip
    have hsh := ite_t hsh c1
    refine lv_iconst (v := (0 : Int32)) hx hb dX2_isPrior_15 (by decide) ?_
    have ho := Option.some.inj hsh
    rw [← ho] at hret
    exact hret _ _ _ _ nar0 dX2_isPrior_16 hP hD hS
  · skip
    have hsh := ite_f hsh c1
    refine lv_iload_n hx hb dX2_isPrior_5 rfl (lv_at hl 0 rfl) ?_
    refine lv_bipush (v := (99 : Int32)) hx hb dX2_isPrior_6 (by decide) ?_
    refine lv_icmp_gt (tgt := 15) hx hb dX2_isPrior_8 (by decide) (fun c1 => ?_) (fun c1 => ?_)
    · skip
      have hsh := ite_t hsh c1
      refine lv_iconst (v := (0 : Int32)) hx hb dX2_isPrior_15 (by decide) ?_
      have ho := Option.some.inj hsh
      rw [← ho] at hret
      exact hret _ _ _ _ nar0 dX2_isPrior_16 hP hD hS
    · skip
      have hsh := ite_f hsh c1
      refine lv_iconst (v := (1 : Int32)) hx hb dX2_isPrior_11 (by decide) ?_
      refine lv_goto (tgt := 16) hx hb dX2_isPrior_12 (by decide) ?_
      have ho := Option.some.inj hsh
      rw [← ho] at hret
      exact hret _ _ _ _ nar1 dX2_isPrior_16 hP hD hS

/-! DryWells$Rocks.isQuality -/
noncomputable def shX2_isQuality (a0 : Int32) : Option (Int32) :=
  (if a0 < 0 then some (0 : Int32) else (if (3 : Int32) ≤ a0 then some (0 : Int32) else some (1 : Int32)))
def wdX2_isQuality (cI cJ cZ : ClassId)   : va_W := []
abbrev rmX2_isQuality : Room := { frames := 0, cells := 0, slots := 0, locals := 0 }
theorem hdX2_isQuality : yX2_isQuality.cls ≠ "java/lang/invoke/MethodHandle" ∧ yX2_isQuality.cls ≠ "java/lang/invoke/VarHandle" ∧ (parseMethodDescriptor yX2_isQuality.desc).map (fun d => d.parameters.length) = some 1 := by decide +kernel
set_option maxHeartbeats 4000000 in
set_option maxRecDepth 100000 in
theorem ctX2_isQuality (l : Launch) (D : va_G) (cI cJ cZ : ClassId)  (a0 : Int32) (o : Int32) (hsh : shX2_isQuality a0 = some o) : CtI l yX2_isQuality wsX2_isQuality rmX2_isQuality D (tys3 cI cJ cZ) noE (wdX2_isQuality cI cJ cZ ) [.int a0] o (wdX2_isQuality cI cJ cZ ) := by
  refine ctZ plX2 rfl (Nat.le_of_ble_eq_true rfl) ?_
  intro p e s m below meth c A Q S hK hA hE hret H locs hP hD hS ls hl
  replace S : CallFix p m c cX2_isQuality 1 s _ wsX2_isQuality RX2 := S
  generalize ([.int a0] : List Value).toArray = args at S hret ⊢
  obtain ⟨hx, hb, hml, hown, hts⟩ := id S
  replace hl : lv_has ls 1 [(0, .int a0)] := hl
  unfold shX2_isQuality at hsh
  refine lv_iload_n hx hb dX2_isQuality_0 rfl (lv_at hl 0 rfl) ?_
  refine lv_if_lt (tgt := 13) hx hb dX2_isQuality_1 (by decide) (fun c1 => ?_) (fun c1 => ?_)
  · skip
    have hsh := ite_t hsh c1
    refine lv_iconst (v := (0 : Int32)) hx hb dX2_isQuality_13 (by decide) ?_
    have ho := Option.some.inj hsh
    rw [← ho] at hret
    exact hret _ _ _ _ nar0 dX2_isQuality_14 hP hD hS
  · skip
    have hsh := ite_f hsh c1
    refine lv_iload_n hx hb dX2_isQuality_4 rfl (lv_at hl 0 rfl) ?_
    refine lv_iconst (v := (3 : Int32)) hx hb dX2_isQuality_5 (by decide) ?_
    refine lv_icmp_ge (tgt := 13) hx hb dX2_isQuality_6 (by decide) (fun c1 => ?_) (fun c1 => ?_)
    · skip
      have hsh := ite_t hsh c1
      refine lv_iconst (v := (0 : Int32)) hx hb dX2_isQuality_13 (by decide) ?_
      have ho := Option.some.inj hsh
      rw [← ho] at hret
      exact hret _ _ _ _ nar0 dX2_isQuality_14 hP hD hS
    · skip
      have hsh := ite_f hsh c1
      refine lv_iconst (v := (1 : Int32)) hx hb dX2_isQuality_9 (by decide) ?_
      refine lv_goto (tgt := 14) hx hb dX2_isQuality_10 (by decide) ?_
      have ho := Option.some.inj hsh
      rw [← ho] at hret
      exact hret _ _ _ _ nar1 dX2_isQuality_14 hP hD hS

/-! DryWells$Rocks.isDepth -/
noncomputable def shX2_isDepth (a0 : Int32) : Option (Int32) :=
  (if a0 < (1 : Int32) then some (0 : Int32) else (if (4 : Int32) < a0 then some (0 : Int32) else some (1 : Int32)))
def wdX2_isDepth (cI cJ cZ : ClassId)   : va_W := []
abbrev rmX2_isDepth : Room := { frames := 0, cells := 0, slots := 0, locals := 0 }
theorem hdX2_isDepth : yX2_isDepth.cls ≠ "java/lang/invoke/MethodHandle" ∧ yX2_isDepth.cls ≠ "java/lang/invoke/VarHandle" ∧ (parseMethodDescriptor yX2_isDepth.desc).map (fun d => d.parameters.length) = some 1 := by decide +kernel
set_option maxHeartbeats 4000000 in
set_option maxRecDepth 100000 in
theorem ctX2_isDepth (l : Launch) (D : va_G) (cI cJ cZ : ClassId)  (a0 : Int32) (o : Int32) (hsh : shX2_isDepth a0 = some o) : CtI l yX2_isDepth wsX2_isDepth rmX2_isDepth D (tys3 cI cJ cZ) noE (wdX2_isDepth cI cJ cZ ) [.int a0] o (wdX2_isDepth cI cJ cZ ) := by
  refine ctZ plX2 rfl (Nat.le_of_ble_eq_true rfl) ?_
  intro p e s m below meth c A Q S hK hA hE hret H locs hP hD hS ls hl
  replace S : CallFix p m c cX2_isDepth 1 s _ wsX2_isDepth RX2 := S
  generalize ([.int a0] : List Value).toArray = args at S hret ⊢
  obtain ⟨hx, hb, hml, hown, hts⟩ := id S
  replace hl : lv_has ls 1 [(0, .int a0)] := hl
  unfold shX2_isDepth at hsh
  refine lv_iload_n hx hb dX2_isDepth_0 rfl (lv_at hl 0 rfl) ?_
  refine lv_iconst (v := (1 : Int32)) hx hb dX2_isDepth_1 (by decide) ?_
  refine lv_icmp_lt (tgt := 14) hx hb dX2_isDepth_2 (by decide) (fun c1 => ?_) (fun c1 => ?_)
  · skip
    have hsh := ite_t hsh c1
    refine lv_iconst (v := (0 : Int32)) hx hb dX2_isDepth_14 (by decide) ?_
    have ho := Option.some.inj hsh
    rw [← ho] at hret
    exact hret _ _ _ _ nar0 dX2_isDepth_15 hP hD hS
  · skip
    have hsh := ite_f hsh c1
    refine lv_iload_n hx hb dX2_isDepth_5 rfl (lv_at hl 0 rfl) ?_
    refine lv_iconst (v := (4 : Int32)) hx hb dX2_isDepth_6 (by decide) ?_
    refine lv_icmp_gt (tgt := 14) hx hb dX2_isDepth_7 (by decide) (fun c1 => ?_) (fun c1 => ?_)
    · skip
      have hsh := ite_t hsh c1
      refine lv_iconst (v := (0 : Int32)) hx hb dX2_isDepth_14 (by decide) ?_
      have ho := Option.some.inj hsh
      rw [← ho] at hret
      exact hret _ _ _ _ nar0 dX2_isDepth_15 hP hD hS
    · skip
      have hsh := ite_f hsh c1
      refine lv_iconst (v := (1 : Int32)) hx hb dX2_isDepth_10 (by decide) ?_
      refine lv_goto (tgt := 15) hx hb dX2_isDepth_11 (by decide) ?_
      have ho := Option.some.inj hsh
      rw [← ho] at hret
      exact hret _ _ _ _ nar1 dX2_isDepth_15 hP hD hS

/-! DryWells$Rocks.has -/
noncomputable def shX2_has (a1 : Int32) (v_size : Int32) : Option (Int32) :=
  (if a1 < 0 then some (0 : Int32) else (if v_size ≤ a1 then some (0 : Int32) else some (1 : Int32)))
def wdX2_has (cI cJ cZ : ClassId) (q_this q_priors q_chances q_wet q_barren q_pipes : Nat) (v_size : Int32) : va_W := [(q_this, .inr (2, [.ref q_priors, .ref q_chances, .ref q_wet, .ref q_barren, .ref q_pipes, .int v_size]))]
abbrev rmX2_has : Room := { frames := 0, cells := 0, slots := 0, locals := 0 }
theorem inX2_has_X2 : ∀ w ∈ u_ws RX2 TX2 6, w ∈ wsX2_has := fun _ h => List.mem_cons_of_mem _ (List.mem_append_right _ h)
theorem lkX2_has_27 : Cond.fieldLink RX2 27 (TX2 5).1 (TX2 5).2.1 (TX2 5).2.2.1 ∈ wsX2_has := List.mem_of_getElem? (i := 1) rfl
theorem hdX2_has : yX2_has.cls = RX2 ∧ yX2_has.cls ≠ "java/lang/invoke/MethodHandle" ∧ yX2_has.cls ≠ "java/lang/invoke/VarHandle" ∧ (parseMethodDescriptor yX2_has.desc).map (fun d => d.parameters.length) = some 1 := by decide +kernel
set_option maxHeartbeats 4000000 in
set_option maxRecDepth 100000 in
theorem ctX2_has (l : Launch) (D : va_G) (cI cJ cZ : ClassId) (q_this q_priors q_chances q_wet q_barren q_pipes : Nat) (v_size : Int32) (a1 : Int32) (o : Int32) (hsh : shX2_has a1 v_size = some o) : CtI l yX2_has wsX2_has rmX2_has D (tys3 cI cJ cZ) noE (wdX2_has cI cJ cZ q_this q_priors q_chances q_wet q_barren q_pipes v_size) [.ref q_this, .int a1] o (wdX2_has cI cJ cZ q_this q_priors q_chances q_wet q_barren q_pipes v_size) := by
  refine ctZ plX2 rfl (Nat.le_of_ble_eq_true rfl) ?_
  intro p e s m below meth c A Q S hK hA hE hret H locs hP hD hS ls hl
  replace S : CallFix p m c cX2_has 2 s _ wsX2_has RX2 := S
  generalize ([.ref q_this, .int a1] : List Value).toArray = args at S hret ⊢
  obtain ⟨hx, hb, hml, hown, hts⟩ := id S
  replace hl : lv_has ls 2 [(0, .ref q_this), (1, .int a1)] := hl
  unfold shX2_has at hsh
  refine lv_iload_n hx hb dX2_has_0 rfl (lv_at hl 1 rfl) ?_
  refine lv_if_lt (tgt := 16) hx hb dX2_has_1 (by decide) (fun c1 => ?_) (fun c1 => ?_)
  · skip
    have hsh := ite_t hsh c1
    refine lv_iconst (v := (0 : Int32)) hx hb dX2_has_16 (by decide) ?_
    have ho := Option.some.inj hsh
    rw [← ho] at hret
    exact hret _ _ _ _ nar0 dX2_has_17 hP hD hS
  · skip
    have hsh := ite_f hsh c1
    refine lv_iload_n hx hb dX2_has_4 rfl (lv_at hl 1 rfl) ?_
    refine lv_aload_n hx hb dX2_has_5 rfl (lv_at hl 0 rfl) ?_
    refine kget (ci := 2) S hK hP rfl inX2_has_X2 0 rfl 5 (by decide) lkX2_has_27 rfl dX2_has_6 ?_
    refine lv_icmp_ge (tgt := 16) hx hb dX2_has_9 (by decide) (fun c1 => ?_) (fun c1 => ?_)
    · skip
      have hsh := ite_t hsh c1
      refine lv_iconst (v := (0 : Int32)) hx hb dX2_has_16 (by decide) ?_
      have ho := Option.some.inj hsh
      rw [← ho] at hret
      exact hret _ _ _ _ nar0 dX2_has_17 hP hD hS
    · skip
      have hsh := ite_f hsh c1
      refine lv_iconst (v := (1 : Int32)) hx hb dX2_has_12 (by decide) ?_
      refine lv_goto (tgt := 17) hx hb dX2_has_13 (by decide) ?_
      have ho := Option.some.inj hsh
      rw [← ho] at hret
      exact hret _ _ _ _ nar1 dX2_has_17 hP hD hS

/-! DryWells$Rocks.size -/
noncomputable def shX2_size (v_size : Int32) : Option (Int32) :=
  some v_size
def wdX2_size (cI cJ cZ : ClassId) (q_this q_priors q_chances q_wet q_barren q_pipes : Nat) (v_size : Int32) : va_W := [(q_this, .inr (2, [.ref q_priors, .ref q_chances, .ref q_wet, .ref q_barren, .ref q_pipes, .int v_size]))]
abbrev rmX2_size : Room := { frames := 0, cells := 0, slots := 0, locals := 0 }
theorem inX2_size_X2 : ∀ w ∈ u_ws RX2 TX2 6, w ∈ wsX2_size := fun _ h => List.mem_cons_of_mem _ (List.mem_append_right _ h)
theorem lkX2_size_27 : Cond.fieldLink RX2 27 (TX2 5).1 (TX2 5).2.1 (TX2 5).2.2.1 ∈ wsX2_size := List.mem_of_getElem? (i := 1) rfl
theorem hdX2_size : yX2_size.cls = RX2 ∧ yX2_size.cls ≠ "java/lang/invoke/MethodHandle" ∧ yX2_size.cls ≠ "java/lang/invoke/VarHandle" ∧ (parseMethodDescriptor yX2_size.desc).map (fun d => d.parameters.length) = some 0 := by decide +kernel
set_option maxHeartbeats 4000000 in
set_option maxRecDepth 100000 in
theorem ctX2_size (l : Launch) (D : va_G) (cI cJ cZ : ClassId) (q_this q_priors q_chances q_wet q_barren q_pipes : Nat) (v_size : Int32)  (o : Int32) (hsh : shX2_size v_size = some o) : CtI l yX2_size wsX2_size rmX2_size D (tys3 cI cJ cZ) noE (wdX2_size cI cJ cZ q_this q_priors q_chances q_wet q_barren q_pipes v_size) [.ref q_this] o (wdX2_size cI cJ cZ q_this q_priors q_chances q_wet q_barren q_pipes v_size) := by
  refine ctI plX2 rfl (Nat.le_of_ble_eq_true rfl) ?_
  intro p e s m below meth c A Q S hK hA hE hret H locs hP hD hS ls hl
  replace S : CallFix p m c cX2_size 1 s _ wsX2_size RX2 := S
  generalize ([.ref q_this] : List Value).toArray = args at S hret ⊢
  obtain ⟨hx, hb, hml, hown, hts⟩ := id S
  replace hl : lv_has ls 1 [(0, .ref q_this)] := hl
  unfold shX2_size at hsh
  refine lv_aload_n hx hb dX2_size_0 rfl (lv_at hl 0 rfl) ?_
  refine kget (ci := 2) S hK hP rfl inX2_size_X2 0 rfl 5 (by decide) lkX2_size_27 rfl dX2_size_1 ?_
  have ho := Option.some.inj hsh
  rw [← ho] at hret
  exact hret _ _ _ _ dX2_size_4 hP hD hS

/-! DryWells$Rocks.append -/
noncomputable def shX2_append (a1 : Int32) (a2 : Int32) (a3 : Int32) (v_size : Int32) (w_priors : Nat → Int32) : Option (Int32 × Int32 × (Nat → Int32)) :=
  (if v_size < (4 : Int32) then ((gd (v_size * (3 : Int32)) 12).bind fun _ => ((gd ((v_size * (3 : Int32)) + (1 : Int32)) 12).bind fun _ => ((gd ((v_size * (3 : Int32)) + (2 : Int32)) 12).bind fun _ => some (((v_size + (1 : Int32)) - (1 : Int32)), (v_size + (1 : Int32)), (upd (upd (upd w_priors ((v_size * (3 : Int32))).toNatClampNeg a1) (((v_size * (3 : Int32)) + (1 : Int32))).toNatClampNeg a2) (((v_size * (3 : Int32)) + (2 : Int32))).toNatClampNeg a3))))) else some ((-1 : Int32), v_size, w_priors))
def wdX2_append (cI cJ cZ : ClassId) (q_this q_priors q_chances q_wet q_barren q_pipes : Nat) (v_size : Int32) (w_priors : Nat → Int32) : va_W := [(q_this, .inr (2, [.ref q_priors, .ref q_chances, .ref q_wet, .ref q_barren, .ref q_pipes, .int v_size])), (q_priors, .inl (cI, 12, .inl w_priors))]
abbrev rmX2_append : Room := { frames := 0, cells := 0, slots := 0, locals := 0 }
theorem inX2_append_X2 : ∀ w ∈ u_ws RX2 TX2 6, w ∈ wsX2_append := fun _ h => List.mem_cons_of_mem _ (List.mem_append_right _ h)
theorem lkX2_append_27 : Cond.fieldLink RX2 27 (TX2 5).1 (TX2 5).2.1 (TX2 5).2.2.1 ∈ wsX2_append := List.mem_of_getElem? (i := 1) rfl
theorem lkX2_append_11 : Cond.fieldLink RX2 11 (TX2 0).1 (TX2 0).2.1 (TX2 0).2.2.1 ∈ wsX2_append := List.mem_of_getElem? (i := 2) rfl
theorem hdX2_append : yX2_append.cls = RX2 ∧ yX2_append.cls ≠ "java/lang/invoke/MethodHandle" ∧ yX2_append.cls ≠ "java/lang/invoke/VarHandle" ∧ (parseMethodDescriptor yX2_append.desc).map (fun d => d.parameters.length) = some 3 := by decide +kernel
set_option maxHeartbeats 4000000 in
set_option maxRecDepth 100000 in
theorem ctX2_append (l : Launch) (D : va_G) (cI cJ cZ : ClassId) (q_this q_priors q_chances q_wet q_barren q_pipes : Nat) (v_size : Int32) (w_priors : Nat → Int32) (a1 : Int32) (a2 : Int32) (a3 : Int32) (o : Int32 × Int32 × (Nat → Int32)) (hsh : shX2_append a1 a2 a3 v_size w_priors = some o) : CtI l yX2_append wsX2_append rmX2_append D (tys3 cI cJ cZ) noE (wdX2_append cI cJ cZ q_this q_priors q_chances q_wet q_barren q_pipes v_size w_priors) [.ref q_this, .int a1, .int a2, .int a3] o.1 (wdX2_append cI cJ cZ q_this q_priors q_chances q_wet q_barren q_pipes o.2.1 o.2.2) := by
  refine ctI plX2 rfl (Nat.le_of_ble_eq_true rfl) ?_
  intro p e s m below meth c A Q S hK hA hE hret H locs hP hD hS ls hl
  replace S : CallFix p m c cX2_append 5 s _ wsX2_append RX2 := S
  generalize ([.ref q_this, .int a1, .int a2, .int a3] : List Value).toArray = args at S hret ⊢
  obtain ⟨hx, hb, hml, hown, hts⟩ := id S
  replace hl : lv_has ls 5 [(0, .ref q_this), (1, .int a1), (2, .int a2), (3, .int a3)] := hl
  unfold shX2_append at hsh
  refine lv_aload_n hx hb dX2_append_0 rfl (lv_at hl 0 rfl) ?_
  refine kget (ci := 2) S hK hP rfl inX2_append_X2 0 rfl 5 (by decide) lkX2_append_27 rfl dX2_append_1 ?_
  refine lv_iconst (v := (4 : Int32)) hx hb dX2_append_4 (by decide) ?_
  refine lv_icmp_lt (tgt := 10) hx hb dX2_append_5 (by decide) (fun c1 => ?_) (fun c1 => ?_)
  · skip
    have hsh := ite_t hsh c1
    refine lv_aload_n hx hb dX2_append_10 rfl (lv_at hl 0 rfl) ?_
    refine kget (ci := 2) S hK hP rfl inX2_append_X2 0 rfl 5 (by decide) lkX2_append_27 rfl dX2_append_11 ?_
    refine lv_iconst (v := (3 : Int32)) hx hb dX2_append_14 (by decide) ?_
    refine lv_imul hx hb dX2_append_15 ?_
    refine lv_istore (lv' := [(4, .int (v_size * (3 : Int32))), (0, .ref q_this), (1, .int a1), (2, .int a2), (3, .int a3)]) hx hb dX2_append_16 hl (by decide) rfl (fun ls hl => ?_)
    refine lv_aload_n hx hb dX2_append_18 rfl (lv_at hl 1 rfl) ?_
    refine kget (ci := 2) S hK hP rfl inX2_append_X2 0 rfl 0 (by decide) lkX2_append_11 rfl dX2_append_19 ?_
    refine lv_iload hx hb dX2_append_22 (lv_at hl 0 rfl) ?_
    refine lv_iload_n hx hb dX2_append_24 rfl (lv_at hl 2 rfl) ?_
    obtain ⟨_, hg, hsh⟩ := bd hsh
    refine kias S hK hP hD hS 1 0 rfl rfl (gd_in hg) (ws' := (wdX2_append cI cJ cZ q_this q_priors q_chances q_wet q_barren q_pipes v_size (upd w_priors ((v_size * (3 : Int32))).toNatClampNeg a1))) rfl dX2_append_25 (fun H locs hP hD hS => ?_)
    refine lv_aload_n hx hb dX2_append_26 rfl (lv_at hl 1 rfl) ?_
    refine kget (ci := 2) S hK hP rfl inX2_append_X2 0 rfl 0 (by decide) lkX2_append_11 rfl dX2_append_27 ?_
    refine lv_iload hx hb dX2_append_30 (lv_at hl 0 rfl) ?_
    refine lv_iconst (v := (1 : Int32)) hx hb dX2_append_32 (by decide) ?_
    refine lv_iadd hx hb dX2_append_33 ?_
    refine lv_iload_n hx hb dX2_append_34 rfl (lv_at hl 3 rfl) ?_
    obtain ⟨_, hg, hsh⟩ := bd hsh
    refine kias S hK hP hD hS 1 0 rfl rfl (gd_in hg) (ws' := (wdX2_append cI cJ cZ q_this q_priors q_chances q_wet q_barren q_pipes v_size (upd (upd w_priors ((v_size * (3 : Int32))).toNatClampNeg a1) (((v_size * (3 : Int32)) + (1 : Int32))).toNatClampNeg a2))) rfl dX2_append_35 (fun H locs hP hD hS => ?_)
    refine lv_aload_n hx hb dX2_append_36 rfl (lv_at hl 1 rfl) ?_
    refine kget (ci := 2) S hK hP rfl inX2_append_X2 0 rfl 0 (by decide) lkX2_append_11 rfl dX2_append_37 ?_
    refine lv_iload hx hb dX2_append_40 (lv_at hl 0 rfl) ?_
    refine lv_iconst (v := (2 : Int32)) hx hb dX2_append_42 (by decide) ?_
    refine lv_iadd hx hb dX2_append_43 ?_
    refine lv_iload_n hx hb dX2_append_44 rfl (lv_at hl 4 rfl) ?_
    obtain ⟨_, hg, hsh⟩ := bd hsh
    refine kias S hK hP hD hS 1 0 rfl rfl (gd_in hg) (ws' := (wdX2_append cI cJ cZ q_this q_priors q_chances q_wet q_barren q_pipes v_size (upd (upd (upd w_priors ((v_size * (3 : Int32))).toNatClampNeg a1) (((v_size * (3 : Int32)) + (1 : Int32))).toNatClampNeg a2) (((v_size * (3 : Int32)) + (2 : Int32))).toNatClampNeg a3))) rfl dX2_append_45 (fun H locs hP hD hS => ?_)
    refine lv_aload_n hx hb dX2_append_46 rfl (lv_at hl 1 rfl) ?_
    refine lv_dup hx hb dX2_append_47 rfl ?_
    refine kget (ci := 2) S hK hP rfl inX2_append_X2 0 rfl 5 (by decide) lkX2_append_27 rfl dX2_append_48 ?_
    refine lv_iconst (v := (1 : Int32)) hx hb dX2_append_51 (by decide) ?_
    refine lv_iadd hx hb dX2_append_52 ?_
    refine kput (ci := 2) S hK hP hD hS rfl inX2_append_X2 tyX2_ok nmX2 0 rfl 5 (by decide) lkX2_append_27 rfl rfl rfl (Nat.le_of_ble_eq_true rfl) (ws' := (wdX2_append cI cJ cZ q_this q_priors q_chances q_wet q_barren q_pipes (v_size + (1 : Int32)) (upd (upd (upd w_priors ((v_size * (3 : Int32))).toNatClampNeg a1) (((v_size * (3 : Int32)) + (1 : Int32))).toNatClampNeg a2) (((v_size * (3 : Int32)) + (2 : Int32))).toNatClampNeg a3))) rfl dX2_append_53 (fun H locs hP hD hS => ?_)
    refine lv_aload_n hx hb dX2_append_56 rfl (lv_at hl 1 rfl) ?_
    refine kget (ci := 2) S hK hP rfl inX2_append_X2 0 rfl 5 (by decide) lkX2_append_27 rfl dX2_append_57 ?_
    refine lv_iconst (v := (1 : Int32)) hx hb dX2_append_60 (by decide) ?_
    refine lv_isub hx hb dX2_append_61 ?_
    have ho := Option.some.inj hsh
    rw [← ho] at hret
    exact hret _ _ _ _ dX2_append_62 hP hD hS
  · skip
    have hsh := ite_f hsh c1
    refine lv_iconst (v := (-1 : Int32)) hx hb dX2_append_8 (by decide) ?_
    have ho := Option.some.inj hsh
    rw [← ho] at hret
    exact hret _ _ _ _ dX2_append_9 hP hD hS

/-! DryWells$Rocks.setChance -/
noncomputable def shX2_setChance (a1 : Int32) (a2 : Int32) (a3 : Int32) (w_chances : Nat → Int32) : Option ((Nat → Int32)) :=
  ((gd (((a1 * (4 : Int32)) + a2) - (1 : Int32)) 12).bind fun _ => some (upd w_chances ((((a1 * (4 : Int32)) + a2) - (1 : Int32))).toNatClampNeg a3))
def wdX2_setChance (cI cJ cZ : ClassId) (q_this q_priors q_chances q_wet q_barren q_pipes : Nat) (v_size : Int32) (w_chances : Nat → Int32) : va_W := [(q_this, .inr (2, [.ref q_priors, .ref q_chances, .ref q_wet, .ref q_barren, .ref q_pipes, .int v_size])), (q_chances, .inl (cI, 12, .inl w_chances))]
abbrev rmX2_setChance : Room := { frames := 0, cells := 0, slots := 0, locals := 0 }
theorem inX2_setChance_X2 : ∀ w ∈ u_ws RX2 TX2 6, w ∈ wsX2_setChance := fun _ h => List.mem_cons_of_mem _ (List.mem_append_right _ h)
theorem lkX2_setChance_15 : Cond.fieldLink RX2 15 (TX2 1).1 (TX2 1).2.1 (TX2 1).2.2.1 ∈ wsX2_setChance := List.mem_of_getElem? (i := 1) rfl
theorem hdX2_setChance : yX2_setChance.cls = RX2 ∧ yX2_setChance.cls ≠ "java/lang/invoke/MethodHandle" ∧ yX2_setChance.cls ≠ "java/lang/invoke/VarHandle" ∧ (parseMethodDescriptor yX2_setChance.desc).map (fun d => d.parameters.length) = some 3 := by decide +kernel
set_option maxHeartbeats 4000000 in
set_option maxRecDepth 100000 in
theorem ctX2_setChance (l : Launch) (D : va_G) (cI cJ cZ : ClassId) (q_this q_priors q_chances q_wet q_barren q_pipes : Nat) (v_size : Int32) (w_chances : Nat → Int32) (a1 : Int32) (a2 : Int32) (a3 : Int32) (o : (Nat → Int32)) (hsh : shX2_setChance a1 a2 a3 w_chances = some o) : CtV l yX2_setChance wsX2_setChance rmX2_setChance D (tys3 cI cJ cZ) noE (wdX2_setChance cI cJ cZ q_this q_priors q_chances q_wet q_barren q_pipes v_size w_chances) [.ref q_this, .int a1, .int a2, .int a3]  (wdX2_setChance cI cJ cZ q_this q_priors q_chances q_wet q_barren q_pipes v_size o) := by
  refine ctV plX2 rfl (Nat.le_of_ble_eq_true rfl) ?_
  intro p e s m below meth c A Q S hK hA hE hret H locs hP hD hS ls hl
  replace S : CallFix p m c cX2_setChance 4 s _ wsX2_setChance RX2 := S
  generalize ([.ref q_this, .int a1, .int a2, .int a3] : List Value).toArray = args at S hret ⊢
  obtain ⟨hx, hb, hml, hown, hts⟩ := id S
  replace hl : lv_has ls 4 [(0, .ref q_this), (1, .int a1), (2, .int a2), (3, .int a3)] := hl
  unfold shX2_setChance at hsh
  refine lv_aload_n hx hb dX2_setChance_0 rfl (lv_at hl 0 rfl) ?_
  refine kget (ci := 2) S hK hP rfl inX2_setChance_X2 0 rfl 1 (by decide) lkX2_setChance_15 rfl dX2_setChance_1 ?_
  refine lv_iload_n hx hb dX2_setChance_4 rfl (lv_at hl 1 rfl) ?_
  refine lv_iconst (v := (4 : Int32)) hx hb dX2_setChance_5 (by decide) ?_
  refine lv_imul hx hb dX2_setChance_6 ?_
  refine lv_iload_n hx hb dX2_setChance_7 rfl (lv_at hl 2 rfl) ?_
  refine lv_iadd hx hb dX2_setChance_8 ?_
  refine lv_iconst (v := (1 : Int32)) hx hb dX2_setChance_9 (by decide) ?_
  refine lv_isub hx hb dX2_setChance_10 ?_
  refine lv_iload_n hx hb dX2_setChance_11 rfl (lv_at hl 3 rfl) ?_
  obtain ⟨_, hg, hsh⟩ := bd hsh
  refine kias S hK hP hD hS 1 0 rfl rfl (gd_in hg) (ws' := (wdX2_setChance cI cJ cZ q_this q_priors q_chances q_wet q_barren q_pipes v_size (upd w_chances ((((a1 * (4 : Int32)) + a2) - (1 : Int32))).toNatClampNeg a3))) rfl dX2_setChance_12 (fun H locs hP hD hS => ?_)
  have ho := Option.some.inj hsh
  rw [← ho] at hret
  exact hret _ _ _ _ dX2_setChance_13 hP hD hS

/-! DryWells$Rocks.hasRoom -/
noncomputable def shX2_hasRoom (a1 : Int32) (a2 : Int32) (w_pipes : Nat → Int32) : Option (Int32) :=
  ((gd a1 4).bind fun _ => (if (8 : Int32) < ((w_pipes (a1).toNatClampNeg) + a2) then some (0 : Int32) else some (1 : Int32)))
def wdX2_hasRoom (cI cJ cZ : ClassId) (q_this q_priors q_chances q_wet q_barren q_pipes : Nat) (v_size : Int32) (w_pipes : Nat → Int32) : va_W := [(q_this, .inr (2, [.ref q_priors, .ref q_chances, .ref q_wet, .ref q_barren, .ref q_pipes, .int v_size])), (q_pipes, .inl (cI, 4, .inl w_pipes))]
abbrev rmX2_hasRoom : Room := { frames := 0, cells := 0, slots := 0, locals := 0 }
theorem inX2_hasRoom_X2 : ∀ w ∈ u_ws RX2 TX2 6, w ∈ wsX2_hasRoom := fun _ h => List.mem_cons_of_mem _ (List.mem_append_right _ h)
theorem lkX2_hasRoom_24 : Cond.fieldLink RX2 24 (TX2 4).1 (TX2 4).2.1 (TX2 4).2.2.1 ∈ wsX2_hasRoom := List.mem_of_getElem? (i := 1) rfl
theorem hdX2_hasRoom : yX2_hasRoom.cls = RX2 ∧ yX2_hasRoom.cls ≠ "java/lang/invoke/MethodHandle" ∧ yX2_hasRoom.cls ≠ "java/lang/invoke/VarHandle" ∧ (parseMethodDescriptor yX2_hasRoom.desc).map (fun d => d.parameters.length) = some 2 := by decide +kernel
set_option maxHeartbeats 4000000 in
set_option maxRecDepth 100000 in
theorem ctX2_hasRoom (l : Launch) (D : va_G) (cI cJ cZ : ClassId) (q_this q_priors q_chances q_wet q_barren q_pipes : Nat) (v_size : Int32) (w_pipes : Nat → Int32) (a1 : Int32) (a2 : Int32) (o : Int32) (hsh : shX2_hasRoom a1 a2 w_pipes = some o) : CtI l yX2_hasRoom wsX2_hasRoom rmX2_hasRoom D (tys3 cI cJ cZ) noE (wdX2_hasRoom cI cJ cZ q_this q_priors q_chances q_wet q_barren q_pipes v_size w_pipes) [.ref q_this, .int a1, .int a2] o (wdX2_hasRoom cI cJ cZ q_this q_priors q_chances q_wet q_barren q_pipes v_size w_pipes) := by
  refine ctZ plX2 rfl (Nat.le_of_ble_eq_true rfl) ?_
  intro p e s m below meth c A Q S hK hA hE hret H locs hP hD hS ls hl
  replace S : CallFix p m c cX2_hasRoom 3 s _ wsX2_hasRoom RX2 := S
  generalize ([.ref q_this, .int a1, .int a2] : List Value).toArray = args at S hret ⊢
  obtain ⟨hx, hb, hml, hown, hts⟩ := id S
  replace hl : lv_has ls 3 [(0, .ref q_this), (1, .int a1), (2, .int a2)] := hl
  unfold shX2_hasRoom at hsh
  refine lv_aload_n hx hb dX2_hasRoom_0 rfl (lv_at hl 0 rfl) ?_
  refine kget (ci := 2) S hK hP rfl inX2_hasRoom_X2 0 rfl 4 (by decide) lkX2_hasRoom_24 rfl dX2_hasRoom_1 ?_
  refine lv_iload_n hx hb dX2_hasRoom_4 rfl (lv_at hl 1 rfl) ?_
  obtain ⟨_, hg, hsh⟩ := bd hsh
  refine kial S hK hP 1 0 rfl rfl (gd_in hg) dX2_hasRoom_5 ?_
  refine lv_iload_n hx hb dX2_hasRoom_6 rfl (lv_at hl 2 rfl) ?_
  refine lv_iadd hx hb dX2_hasRoom_7 ?_
  refine lv_bipush (v := (8 : Int32)) hx hb dX2_hasRoom_8 (by decide) ?_
  refine lv_icmp_gt (tgt := 17) hx hb dX2_hasRoom_10 (by decide) (fun c1 => ?_) (fun c1 => ?_)
  · skip
    have hsh := ite_t hsh c1
    refine lv_iconst (v := (0 : Int32)) hx hb dX2_hasRoom_17 (by decide) ?_
    have ho := Option.some.inj hsh
    rw [← ho] at hret
    exact hret _ _ _ _ nar0 dX2_hasRoom_18 hP hD hS
  · skip
    have hsh := ite_f hsh c1
    refine lv_iconst (v := (1 : Int32)) hx hb dX2_hasRoom_13 (by decide) ?_
    refine lv_goto (tgt := 18) hx hb dX2_hasRoom_14 (by decide) ?_
    have ho := Option.some.inj hsh
    rw [← ho] at hret
    exact hret _ _ _ _ nar1 dX2_hasRoom_18 hP hD hS

/-! DryWells$Rocks.addHole -/
noncomputable def shX2_addHole_j_67 (a1 : Int32) (a2 : Int32) (w_pipes : Nat → Int32) (w_wet_j_67 : Nat → Int32) (w_barren_j_67 : Nat → Int32) : Option ((Nat → Int32) × (Nat → Int32) × (Nat → Int32)) :=
  ((gd a1 4).bind fun _ => ((gd a1 4).bind fun _ => some (w_wet_j_67, w_barren_j_67, (upd w_pipes (a1).toNatClampNeg ((w_pipes (a1).toNatClampNeg) + a2)))))
noncomputable def shX2_addHole_j_38 (a1 : Int32) (a2 : Int32) (a3 : Int32) (w_wet : Nat → Int32) (w_pipes : Nat → Int32) (x4_j_38 : Int32) (w_barren_j_38 : Nat → Int32) : Option ((Nat → Int32) × (Nat → Int32) × (Nat → Int32)) :=
  (if a3 = 0 then ((gd x4_j_38 16).bind fun _ => ((gd x4_j_38 16).bind fun _ => (shX2_addHole_j_67 a1 a2 w_pipes w_wet (upd w_barren_j_38 (x4_j_38).toNatClampNeg ((w_barren_j_38 (x4_j_38).toNatClampNeg) + (1 : Int32)))))) else ((gd x4_j_38 16).bind fun _ => ((gd x4_j_38 16).bind fun _ => (shX2_addHole_j_67 a1 a2 w_pipes (upd w_wet (x4_j_38).toNatClampNeg ((w_wet (x4_j_38).toNatClampNeg) + (1 : Int32))) w_barren_j_38))))
noncomputable def shX2_addHole_L14 (a1 : Int32) (a2 : Int32) (x5_14 : Int32) (w_barren_14 : Nat → Int32) : Option ((Int32 × (Nat → Int32)) ⊕ (((Nat → Int32)))) :=
  (if (((a1 * (4 : Int32)) + a2) - (1 : Int32)) ≤ x5_14 then some (Sum.inr w_barren_14) else ((gd x5_14 16).bind fun _ => ((gd x5_14 16).bind fun _ => some (Sum.inl ((x5_14 + (1 : Int32)), (upd w_barren_14 (x5_14).toNatClampNeg ((w_barren_14 (x5_14).toNatClampNeg) + (1 : Int32))))))))
noncomputable def shX2_addHole (a1 : Int32) (a2 : Int32) (a3 : Int32) (w_wet : Nat → Int32) (w_barren : Nat → Int32) (w_pipes : Nat → Int32) : Option ((Nat → Int32) × (Nat → Int32) × (Nat → Int32)) :=
  ((lp (fun s : Int32 × (Nat → Int32) => shX2_addHole_L14 a1 a2 s.1 s.2) ((a1 * (4 : Int32)), w_barren)).bind (fun p : (Nat → Int32) => shX2_addHole_j_38 a1 a2 a3 w_wet w_pipes (((a1 * (4 : Int32)) + a2) - (1 : Int32)) p))
def wdX2_addHole (cI cJ cZ : ClassId) (q_this q_priors q_chances q_wet q_barren q_pipes : Nat) (v_size : Int32) (w_wet : Nat → Int32) (w_barren : Nat → Int32) (w_pipes : Nat → Int32) : va_W := [(q_this, .inr (2, [.ref q_priors, .ref q_chances, .ref q_wet, .ref q_barren, .ref q_pipes, .int v_size])), (q_wet, .inl (cI, 16, .inl w_wet)), (q_barren, .inl (cI, 16, .inl w_barren)), (q_pipes, .inl (cI, 4, .inl w_pipes))]
abbrev rmX2_addHole : Room := { frames := 0, cells := 0, slots := 0, locals := 0 }
theorem inX2_addHole_X2 : ∀ w ∈ u_ws RX2 TX2 6, w ∈ wsX2_addHole := fun _ h => List.mem_cons_of_mem _ (List.mem_append_right _ h)
theorem lkX2_addHole_21 : Cond.fieldLink RX2 21 (TX2 3).1 (TX2 3).2.1 (TX2 3).2.2.1 ∈ wsX2_addHole := List.mem_of_getElem? (i := 1) rfl
theorem lkX2_addHole_24 : Cond.fieldLink RX2 24 (TX2 4).1 (TX2 4).2.1 (TX2 4).2.2.1 ∈ wsX2_addHole := List.mem_of_getElem? (i := 3) rfl
theorem lkX2_addHole_18 : Cond.fieldLink RX2 18 (TX2 2).1 (TX2 2).2.1 (TX2 2).2.2.1 ∈ wsX2_addHole := List.mem_of_getElem? (i := 2) rfl
theorem hdX2_addHole : yX2_addHole.cls = RX2 ∧ yX2_addHole.cls ≠ "java/lang/invoke/MethodHandle" ∧ yX2_addHole.cls ≠ "java/lang/invoke/VarHandle" ∧ (parseMethodDescriptor yX2_addHole.desc).map (fun d => d.parameters.length) = some 3 := by decide +kernel
set_option maxHeartbeats 4000000 in
set_option maxRecDepth 100000 in
theorem ctX2_addHole (l : Launch) (D : va_G) (cI cJ cZ : ClassId) (q_this q_priors q_chances q_wet q_barren q_pipes : Nat) (v_size : Int32) (w_wet : Nat → Int32) (w_barren : Nat → Int32) (w_pipes : Nat → Int32) (a1 : Int32) (a2 : Int32) (a3 : Int32) (o : (Nat → Int32) × (Nat → Int32) × (Nat → Int32)) (hsh : shX2_addHole a1 a2 a3 w_wet w_barren w_pipes = some o) : CtV l yX2_addHole wsX2_addHole rmX2_addHole D (tys3 cI cJ cZ) noE (wdX2_addHole cI cJ cZ q_this q_priors q_chances q_wet q_barren q_pipes v_size w_wet w_barren w_pipes) [.ref q_this, .int a1, .int a2, .int a3]  (wdX2_addHole cI cJ cZ q_this q_priors q_chances q_wet q_barren q_pipes v_size o.1 o.2.1 o.2.2) := by
  refine ctV plX2 rfl (Nat.le_of_ble_eq_true rfl) ?_
  intro p e s m below meth c A Q S hK hA hE hret H locs hP hD hS ls hl
  replace S : CallFix p m c cX2_addHole 6 s _ wsX2_addHole RX2 := S
  generalize ([.ref q_this, .int a1, .int a2, .int a3] : List Value).toArray = args at S hret ⊢
  obtain ⟨hx, hb, hml, hown, hts⟩ := id S
  replace hl : lv_has ls 6 [(0, .ref q_this), (1, .int a1), (2, .int a2), (3, .int a3)] := hl
  unfold shX2_addHole at hsh
  have Jj_67 : ∀ (w_wet_j_67 : Nat → Int32) (w_barren_j_67 : Nat → Int32) (H : Heap) (locs : List Loc), va_P D vwCl (wdX2_addHole cI cJ cZ q_this q_priors q_chances q_wet q_barren q_pipes v_size w_wet_j_67 w_barren_j_67 w_pipes) H → va_D A (wdX2_addHole cI cJ cZ q_this q_priors q_chances q_wet q_barren q_pipes v_size w_wet_j_67 w_barren_j_67 w_pipes) → va_S A s.heap H locs → ∀ ls : Array Slot, lv_has ls 6 [(0, .ref q_this), (1, .int a1), (2, .int a2)] → shX2_addHole_j_67 a1 a2 w_pipes w_wet_j_67 w_barren_j_67 = some o → W p l e rmX2_addHole s m args below meth c H locs 0 0 Q (F0 m 67 ls []) := by
    intro w_wet_j_67 w_barren_j_67 H locs hP hD hS ls hl hsh
    unfold shX2_addHole_j_67 at hsh
    refine lv_aload_n hx hb dX2_addHole_67 rfl (lv_at hl 0 rfl) ?_
    refine kget (ci := 2) S hK hP rfl inX2_addHole_X2 0 rfl 4 (by decide) lkX2_addHole_24 rfl dX2_addHole_68 ?_
    refine lv_iload_n hx hb dX2_addHole_71 rfl (lv_at hl 1 rfl) ?_
    refine lv_dup2_11 hx hb dX2_addHole_72 rfl rfl ?_
    obtain ⟨_, hg, hsh⟩ := bd hsh
    refine kial S hK hP 3 0 rfl rfl (gd_in hg) dX2_addHole_73 ?_
    refine lv_iload_n hx hb dX2_addHole_74 rfl (lv_at hl 2 rfl) ?_
    refine lv_iadd hx hb dX2_addHole_75 ?_
    obtain ⟨_, hg, hsh⟩ := bd hsh
    refine kias S hK hP hD hS 3 0 rfl rfl (gd_in hg) (ws' := (wdX2_addHole cI cJ cZ q_this q_priors q_chances q_wet q_barren q_pipes v_size w_wet_j_67 w_barren_j_67 (upd w_pipes (a1).toNatClampNeg ((w_pipes (a1).toNatClampNeg) + a2)))) rfl dX2_addHole_76 (fun H locs hP hD hS => ?_)
    have ho := Option.some.inj hsh
    rw [← ho] at hret
    exact hret _ _ _ _ dX2_addHole_77 hP hD hS
  have Jj_38 : ∀ (x4_j_38 : Int32) (w_barren_j_38 : Nat → Int32) (H : Heap) (locs : List Loc), va_P D vwCl (wdX2_addHole cI cJ cZ q_this q_priors q_chances q_wet q_barren q_pipes v_size w_wet w_barren_j_38 w_pipes) H → va_D A (wdX2_addHole cI cJ cZ q_this q_priors q_chances q_wet q_barren q_pipes v_size w_wet w_barren_j_38 w_pipes) → va_S A s.heap H locs → ∀ ls : Array Slot, lv_has ls 6 [(0, .ref q_this), (1, .int a1), (2, .int a2), (3, .int a3), (4, .int x4_j_38)] → shX2_addHole_j_38 a1 a2 a3 w_wet w_pipes x4_j_38 w_barren_j_38 = some o → W p l e rmX2_addHole s m args below meth c H locs 0 0 Q (F0 m 38 ls []) := by
    intro x4_j_38 w_barren_j_38 H locs hP hD hS ls hl hsh
    unfold shX2_addHole_j_38 at hsh
    refine lv_iload_n hx hb dX2_addHole_38 rfl (lv_at hl 3 rfl) ?_
    refine lv_if_eq (tgt := 56) hx hb dX2_addHole_39 (by decide) (fun c1 => ?_) (fun c1 => ?_)
    · skip
      have hsh := ite_t hsh c1
      refine lv_aload_n hx hb dX2_addHole_56 rfl (lv_at hl 0 rfl) ?_
      refine kget (ci := 2) S hK hP rfl inX2_addHole_X2 0 rfl 3 (by decide) lkX2_addHole_21 rfl dX2_addHole_57 ?_
      refine lv_iload hx hb dX2_addHole_60 (lv_at hl 4 rfl) ?_
      refine lv_dup2_11 hx hb dX2_addHole_62 rfl rfl ?_
      obtain ⟨_, hg, hsh⟩ := bd hsh
      refine kial S hK hP 2 0 rfl rfl (gd_in hg) dX2_addHole_63 ?_
      refine lv_iconst (v := (1 : Int32)) hx hb dX2_addHole_64 (by decide) ?_
      refine lv_iadd hx hb dX2_addHole_65 ?_
      obtain ⟨_, hg, hsh⟩ := bd hsh
      refine kias S hK hP hD hS 2 0 rfl rfl (gd_in hg) (ws' := (wdX2_addHole cI cJ cZ q_this q_priors q_chances q_wet q_barren q_pipes v_size w_wet (upd w_barren_j_38 (x4_j_38).toNatClampNeg ((w_barren_j_38 (x4_j_38).toNatClampNeg) + (1 : Int32))) w_pipes)) rfl dX2_addHole_66 (fun H locs hP hD hS => ?_)
      exact Jj_67 w_wet (upd w_barren_j_38 (x4_j_38).toNatClampNeg ((w_barren_j_38 (x4_j_38).toNatClampNeg) + (1 : Int32))) H locs hP hD hS ls (lv_sub hl [0, 1, 2] rfl) hsh
    · skip
      have hsh := ite_f hsh c1
      refine lv_aload_n hx hb dX2_addHole_42 rfl (lv_at hl 0 rfl) ?_
      refine kget (ci := 2) S hK hP rfl inX2_addHole_X2 0 rfl 2 (by decide) lkX2_addHole_18 rfl dX2_addHole_43 ?_
      refine lv_iload hx hb dX2_addHole_46 (lv_at hl 4 rfl) ?_
      refine lv_dup2_11 hx hb dX2_addHole_48 rfl rfl ?_
      obtain ⟨_, hg, hsh⟩ := bd hsh
      refine kial S hK hP 1 0 rfl rfl (gd_in hg) dX2_addHole_49 ?_
      refine lv_iconst (v := (1 : Int32)) hx hb dX2_addHole_50 (by decide) ?_
      refine lv_iadd hx hb dX2_addHole_51 ?_
      obtain ⟨_, hg, hsh⟩ := bd hsh
      refine kias S hK hP hD hS 1 0 rfl rfl (gd_in hg) (ws' := (wdX2_addHole cI cJ cZ q_this q_priors q_chances q_wet q_barren q_pipes v_size (upd w_wet (x4_j_38).toNatClampNeg ((w_wet (x4_j_38).toNatClampNeg) + (1 : Int32))) w_barren_j_38 w_pipes)) rfl dX2_addHole_52 (fun H locs hP hD hS => ?_)
      refine lv_goto (tgt := 67) hx hb dX2_addHole_53 (by decide) ?_
      exact Jj_67 (upd w_wet (x4_j_38).toNatClampNeg ((w_wet (x4_j_38).toNatClampNeg) + (1 : Int32))) w_barren_j_38 H locs hP hD hS ls (lv_sub hl [0, 1, 2] rfl) hsh
  refine lv_iload_n hx hb dX2_addHole_0 rfl (lv_at hl 1 rfl) ?_
  refine lv_iconst (v := (4 : Int32)) hx hb dX2_addHole_1 (by decide) ?_
  refine lv_imul hx hb dX2_addHole_2 ?_
  refine lv_iload_n hx hb dX2_addHole_3 rfl (lv_at hl 2 rfl) ?_
  refine lv_iadd hx hb dX2_addHole_4 ?_
  refine lv_iconst (v := (1 : Int32)) hx hb dX2_addHole_5 (by decide) ?_
  refine lv_isub hx hb dX2_addHole_6 ?_
  refine lv_istore (lv' := [(4, .int (((a1 * (4 : Int32)) + a2) - (1 : Int32))), (0, .ref q_this), (1, .int a1), (2, .int a2), (3, .int a3)]) hx hb dX2_addHole_7 hl (by decide) rfl (fun ls hl => ?_)
  refine lv_iload_n hx hb dX2_addHole_9 rfl (lv_at hl 2 rfl) ?_
  refine lv_iconst (v := (4 : Int32)) hx hb dX2_addHole_10 (by decide) ?_
  refine lv_imul hx hb dX2_addHole_11 ?_
  refine lv_istore (lv' := [(5, .int (a1 * (4 : Int32))), (4, .int (((a1 * (4 : Int32)) + a2) - (1 : Int32))), (0, .ref q_this), (1, .int a1), (2, .int a2), (3, .int a3)]) hx hb dX2_addHole_12 hl (by decide) rfl (fun ls hl => ?_)
  obtain ⟨r_14, hl_14, hk_14⟩ := bd hsh
  obtain ⟨n_14, hn_14⟩ := lp_iff.mp hl_14
  have L_14 : ∀ (n : Nat) (x5_14 : Int32) (w_barren_14 : Nat → Int32) (H : Heap) (locs : List Loc), va_P D vwCl (wdX2_addHole cI cJ cZ q_this q_priors q_chances q_wet q_barren q_pipes v_size w_wet w_barren_14 w_pipes) H → va_D A (wdX2_addHole cI cJ cZ q_this q_priors q_chances q_wet q_barren q_pipes v_size w_wet w_barren_14 w_pipes) → va_S A s.heap H locs → ∀ ls : Array Slot, lv_has ls 6 [(0, .ref q_this), (1, .int a1), (2, .int a2), (3, .int a3), (4, .int (((a1 * (4 : Int32)) + a2) - (1 : Int32))), (5, .int x5_14)] → it (fun s : Int32 × (Nat → Int32) => shX2_addHole_L14 a1 a2 s.1 s.2) n (x5_14, w_barren_14) = some r_14 → W p l e rmX2_addHole s m args below meth c H locs 0 0 Q (F0 m 14 ls []) := by
    intro n
    induction n with
    | zero => exact fun _ _ _ _ _ _ _ _ _ hi => it_0 hi
    | succ n ih_14 =>
      intro x5_14 w_barren_14 H locs hP hD hS ls hl hi
      obtain ⟨b_14, hsh, hB1_14, hB2_14⟩ := it_b hi
      replace hsh : shX2_addHole_L14 a1 a2 x5_14 w_barren_14 = some b_14 := hsh
      unfold shX2_addHole_L14 at hsh
      refine lv_iload hx hb dX2_addHole_14 (lv_at hl 5 rfl) ?_
      refine lv_iload hx hb dX2_addHole_16 (lv_at hl 4 rfl) ?_
      refine lv_icmp_ge (tgt := 38) hx hb dX2_addHole_18 (by decide) (fun c1 => ?_) (fun c1 => ?_)
      · skip
        have hsh := ite_t hsh c1
        have he := hB2_14 _ hsh
        rw [← he] at hk_14
        exact Jj_38 (((a1 * (4 : Int32)) + a2) - (1 : Int32)) w_barren_14 H locs hP hD hS ls (lv_sub hl [0, 1, 2, 3, 4] rfl) hk_14
      · skip
        have hsh := ite_f hsh c1
        refine lv_aload_n hx hb dX2_addHole_21 rfl (lv_at hl 0 rfl) ?_
        refine kget (ci := 2) S hK hP rfl inX2_addHole_X2 0 rfl 3 (by decide) lkX2_addHole_21 rfl dX2_addHole_22 ?_
        refine lv_iload hx hb dX2_addHole_25 (lv_at hl 5 rfl) ?_
        refine lv_dup2_11 hx hb dX2_addHole_27 rfl rfl ?_
        obtain ⟨_, hg, hsh⟩ := bd hsh
        refine kial S hK hP 2 0 rfl rfl (gd_in hg) dX2_addHole_28 ?_
        refine lv_iconst (v := (1 : Int32)) hx hb dX2_addHole_29 (by decide) ?_
        refine lv_iadd hx hb dX2_addHole_30 ?_
        obtain ⟨_, hg, hsh⟩ := bd hsh
        refine kias S hK hP hD hS 2 0 rfl rfl (gd_in hg) (ws' := (wdX2_addHole cI cJ cZ q_this q_priors q_chances q_wet q_barren q_pipes v_size w_wet (upd w_barren_14 (x5_14).toNatClampNeg ((w_barren_14 (x5_14).toNatClampNeg) + (1 : Int32))) w_pipes)) rfl dX2_addHole_31 (fun H locs hP hD hS => ?_)
        refine lv_iinc (v := (x5_14 + (1 : Int32))) (lv' := [(5, .int (x5_14 + (1 : Int32))), (0, .ref q_this), (1, .int a1), (2, .int a2), (3, .int a3), (4, .int (((a1 * (4 : Int32)) + a2) - (1 : Int32)))]) hx hb dX2_addHole_32 hl (k := 5) rfl (congrArg (fun z : Int32 => x5_14 + z) (by decide)) (by decide) rfl (fun ls hl => ?_)
        refine lv_goto (tgt := 14) hx hb dX2_addHole_35 (by decide) ?_
        exact ih_14 (x5_14 + (1 : Int32)) (upd w_barren_14 (x5_14).toNatClampNeg ((w_barren_14 (x5_14).toNatClampNeg) + (1 : Int32))) H locs hP hD hS ls (lv_sub hl [1, 2, 3, 4, 5, 0] rfl) (hB1_14 _ hsh)
  exact L_14 n_14 (a1 * (4 : Int32)) w_barren H locs hP hD hS ls (lv_sub hl [2, 3, 4, 5, 1, 0] rfl) hn_14

/-! DryWells$Rocks.allPipes -/
noncomputable def shX2_allPipes_j_27 (x1_j_27 : Int32) : Option (Int32) :=
  some x1_j_27
noncomputable def shX2_allPipes_L4 (v_size : Int32) (w_pipes : Nat → Int32) (x1_4 : Int32) (x2_4 : Int32) : Option ((Int32 × Int32) ⊕ ((Int32))) :=
  (if v_size ≤ x2_4 then some (Sum.inr x1_4) else ((gd x2_4 4).bind fun _ => some (Sum.inl ((x1_4 + (w_pipes (x2_4).toNatClampNeg)), (x2_4 + (1 : Int32))))))
noncomputable def shX2_allPipes (v_size : Int32) (w_pipes : Nat → Int32) : Option (Int32) :=
  ((lp (fun s : Int32 × Int32 => shX2_allPipes_L4 v_size w_pipes s.1 s.2) ((0 : Int32), (0 : Int32))).bind (fun p : Int32 => shX2_allPipes_j_27 p))
def wdX2_allPipes (cI cJ cZ : ClassId) (q_this q_priors q_chances q_wet q_barren q_pipes : Nat) (v_size : Int32) (w_pipes : Nat → Int32) : va_W := [(q_this, .inr (2, [.ref q_priors, .ref q_chances, .ref q_wet, .ref q_barren, .ref q_pipes, .int v_size])), (q_pipes, .inl (cI, 4, .inl w_pipes))]
abbrev rmX2_allPipes : Room := { frames := 0, cells := 0, slots := 0, locals := 0 }
theorem inX2_allPipes_X2 : ∀ w ∈ u_ws RX2 TX2 6, w ∈ wsX2_allPipes := fun _ h => List.mem_cons_of_mem _ (List.mem_append_right _ h)
theorem lkX2_allPipes_27 : Cond.fieldLink RX2 27 (TX2 5).1 (TX2 5).2.1 (TX2 5).2.2.1 ∈ wsX2_allPipes := List.mem_of_getElem? (i := 1) rfl
theorem lkX2_allPipes_24 : Cond.fieldLink RX2 24 (TX2 4).1 (TX2 4).2.1 (TX2 4).2.2.1 ∈ wsX2_allPipes := List.mem_of_getElem? (i := 2) rfl
theorem hdX2_allPipes : yX2_allPipes.cls = RX2 ∧ yX2_allPipes.cls ≠ "java/lang/invoke/MethodHandle" ∧ yX2_allPipes.cls ≠ "java/lang/invoke/VarHandle" ∧ (parseMethodDescriptor yX2_allPipes.desc).map (fun d => d.parameters.length) = some 0 := by decide +kernel
set_option maxHeartbeats 4000000 in
set_option maxRecDepth 100000 in
theorem ctX2_allPipes (l : Launch) (D : va_G) (cI cJ cZ : ClassId) (q_this q_priors q_chances q_wet q_barren q_pipes : Nat) (v_size : Int32) (w_pipes : Nat → Int32)  (o : Int32) (hsh : shX2_allPipes v_size w_pipes = some o) : CtI l yX2_allPipes wsX2_allPipes rmX2_allPipes D (tys3 cI cJ cZ) noE (wdX2_allPipes cI cJ cZ q_this q_priors q_chances q_wet q_barren q_pipes v_size w_pipes) [.ref q_this] o (wdX2_allPipes cI cJ cZ q_this q_priors q_chances q_wet q_barren q_pipes v_size w_pipes) := by
  refine ctI plX2 rfl (Nat.le_of_ble_eq_true rfl) ?_
  intro p e s m below meth c A Q S hK hA hE hret H locs hP hD hS ls hl
  replace S : CallFix p m c cX2_allPipes 3 s _ wsX2_allPipes RX2 := S
  generalize ([.ref q_this] : List Value).toArray = args at S hret ⊢
  obtain ⟨hx, hb, hml, hown, hts⟩ := id S
  replace hl : lv_has ls 3 [(0, .ref q_this)] := hl
  unfold shX2_allPipes at hsh
  have Jj_27 : ∀ (x1_j_27 : Int32) (H : Heap) (locs : List Loc), va_P D vwCl (wdX2_allPipes cI cJ cZ q_this q_priors q_chances q_wet q_barren q_pipes v_size w_pipes) H → va_D A (wdX2_allPipes cI cJ cZ q_this q_priors q_chances q_wet q_barren q_pipes v_size w_pipes) → va_S A s.heap H locs → ∀ ls : Array Slot, lv_has ls 3 [(1, .int x1_j_27)] → shX2_allPipes_j_27 x1_j_27 = some o → W p l e rmX2_allPipes s m args below meth c H locs 0 0 Q (F0 m 27 ls []) := by
    intro x1_j_27 H locs hP hD hS ls hl hsh
    unfold shX2_allPipes_j_27 at hsh
    refine lv_iload_n hx hb dX2_allPipes_27 rfl (lv_at hl 0 rfl) ?_
    have ho := Option.some.inj hsh
    rw [← ho] at hret
    exact hret _ _ _ _ dX2_allPipes_28 hP hD hS
  refine lv_iconst (v := (0 : Int32)) hx hb dX2_allPipes_0 (by decide) ?_
  refine lv_istore_n (lv' := [(1, .int (0 : Int32)), (0, .ref q_this)]) hx hb dX2_allPipes_1 rfl hl (by decide) rfl (fun ls hl => ?_)
  refine lv_iconst (v := (0 : Int32)) hx hb dX2_allPipes_2 (by decide) ?_
  refine lv_istore_n (lv' := [(2, .int (0 : Int32)), (1, .int (0 : Int32)), (0, .ref q_this)]) hx hb dX2_allPipes_3 rfl hl (by decide) rfl (fun ls hl => ?_)
  obtain ⟨r_4, hl_4, hk_4⟩ := bd hsh
  obtain ⟨n_4, hn_4⟩ := lp_iff.mp hl_4
  have L_4 : ∀ (n : Nat) (x1_4 : Int32) (x2_4 : Int32) (H : Heap) (locs : List Loc), va_P D vwCl (wdX2_allPipes cI cJ cZ q_this q_priors q_chances q_wet q_barren q_pipes v_size w_pipes) H → va_D A (wdX2_allPipes cI cJ cZ q_this q_priors q_chances q_wet q_barren q_pipes v_size w_pipes) → va_S A s.heap H locs → ∀ ls : Array Slot, lv_has ls 3 [(0, .ref q_this), (1, .int x1_4), (2, .int x2_4)] → it (fun s : Int32 × Int32 => shX2_allPipes_L4 v_size w_pipes s.1 s.2) n (x1_4, x2_4) = some r_4 → W p l e rmX2_allPipes s m args below meth c H locs 0 0 Q (F0 m 4 ls []) := by
    intro n
    induction n with
    | zero => exact fun _ _ _ _ _ _ _ _ _ hi => it_0 hi
    | succ n ih_4 =>
      intro x1_4 x2_4 H locs hP hD hS ls hl hi
      obtain ⟨b_4, hsh, hB1_4, hB2_4⟩ := it_b hi
      replace hsh : shX2_allPipes_L4 v_size w_pipes x1_4 x2_4 = some b_4 := hsh
      unfold shX2_allPipes_L4 at hsh
      refine lv_iload_n hx hb dX2_allPipes_4 rfl (lv_at hl 2 rfl) ?_
      refine lv_aload_n hx hb dX2_allPipes_5 rfl (lv_at hl 0 rfl) ?_
      refine kget (ci := 2) S hK hP rfl inX2_allPipes_X2 0 rfl 5 (by decide) lkX2_allPipes_27 rfl dX2_allPipes_6 ?_
      refine lv_icmp_ge (tgt := 27) hx hb dX2_allPipes_9 (by decide) (fun c1 => ?_) (fun c1 => ?_)
      · skip
        have hsh := ite_t hsh c1
        have he := hB2_4 _ hsh
        rw [← he] at hk_4
        exact Jj_27 x1_4 H locs hP hD hS ls (lv_sub hl [1] rfl) hk_4
      · skip
        have hsh := ite_f hsh c1
        refine lv_iload_n hx hb dX2_allPipes_12 rfl (lv_at hl 1 rfl) ?_
        refine lv_aload_n hx hb dX2_allPipes_13 rfl (lv_at hl 0 rfl) ?_
        refine kget (ci := 2) S hK hP rfl inX2_allPipes_X2 0 rfl 4 (by decide) lkX2_allPipes_24 rfl dX2_allPipes_14 ?_
        refine lv_iload_n hx hb dX2_allPipes_17 rfl (lv_at hl 2 rfl) ?_
        obtain ⟨_, hg, hsh⟩ := bd hsh
        refine kial S hK hP 1 0 rfl rfl (gd_in hg) dX2_allPipes_18 ?_
        refine lv_iadd hx hb dX2_allPipes_19 ?_
        refine lv_istore_n (lv' := [(1, .int (x1_4 + (w_pipes (x2_4).toNatClampNeg))), (0, .ref q_this), (2, .int x2_4)]) hx hb dX2_allPipes_20 rfl hl (by decide) rfl (fun ls hl => ?_)
        refine lv_iinc (v := (x2_4 + (1 : Int32))) (lv' := [(2, .int (x2_4 + (1 : Int32))), (1, .int (x1_4 + (w_pipes (x2_4).toNatClampNeg))), (0, .ref q_this)]) hx hb dX2_allPipes_21 hl (k := 2) rfl (congrArg (fun z : Int32 => x2_4 + z) (by decide)) (by decide) rfl (fun ls hl => ?_)
        refine lv_goto (tgt := 4) hx hb dX2_allPipes_24 (by decide) ?_
        exact ih_4 (x1_4 + (w_pipes (x2_4).toNatClampNeg)) (x2_4 + (1 : Int32)) H locs hP hD hS ls (lv_sub hl [2, 1, 0] rfl) (hB1_4 _ hsh)
  exact L_4 n_4 (0 : Int32) (0 : Int32) H locs hP hD hS ls (lv_sub hl [2, 1, 0] rfl) hn_4

/-! DryWells$Rocks.weight -/
noncomputable def shX2_weight_j_105 (x3_j_105 : Int64) : Option (Int64) :=
  some x3_j_105
noncomputable def shX2_weight_k15_99 (x5_15 : Int32) (x3_k15_99 : Int64) : Option ((Int64 × Int32) ⊕ ((Int64))) :=
  some (Sum.inl (x3_k15_99, (x5_15 + (1 : Int32))))
noncomputable def shX2_weight_L72 (w_barren : Nat → Int32) (x6_k15_69 : Int32) (x7_k15_69 : Int32) (x3_72 : Int64) (x8_72 : Int32) : Option ((Int64 × Int32) ⊕ ((Int64))) :=
  ((gd x7_k15_69 16).bind fun _ => (if (w_barren (x7_k15_69).toNatClampNeg) ≤ x8_72 then some (Sum.inr x3_72) else some (Sum.inl ((x3_72 * (((16 : Int32) - x6_k15_69)).toInt64), (x8_72 + (1 : Int32))))))
noncomputable def shX2_weight_k15_69 (w_barren : Nat → Int32) (x5_15 : Int32) (x3_k15_69 : Int64) (x6_k15_69 : Int32) (x7_k15_69 : Int32) : Option ((Int64 × Int32) ⊕ ((Int64))) :=
  ((lp (fun s : Int64 × Int32 => shX2_weight_L72 w_barren x6_k15_69 x7_k15_69 s.1 s.2) (x3_k15_69, (0 : Int32))).bind (fun p : Int64 => shX2_weight_k15_99 x5_15 p))
noncomputable def shX2_weight_L45 (a1 : Int32) (a2 : Int32) (w_chances : Nat → Int32) (w_wet : Nat → Int32) (x5_15 : Int32) (x3_45 : Int64) (x8_45 : Int32) : Option ((Int64 × Int32) ⊕ ((Int64))) :=
  ((gd ((a1 * (4 : Int32)) + x5_15) 16).bind fun _ => (if (w_wet (((a1 * (4 : Int32)) + x5_15)).toNatClampNeg) ≤ x8_45 then some (Sum.inr x3_45) else some (Sum.inl ((x3_45 * ((w_chances (((a2 * (4 : Int32)) + x5_15)).toNatClampNeg)).toInt64), (x8_45 + (1 : Int32))))))
noncomputable def shX2_weight_L15 (a1 : Int32) (a2 : Int32) (w_chances : Nat → Int32) (w_wet : Nat → Int32) (w_barren : Nat → Int32) (x3_15 : Int64) (x5_15 : Int32) : Option ((Int64 × Int32) ⊕ ((Int64))) :=
  (if (4 : Int32) ≤ x5_15 then some (Sum.inr x3_15) else ((gd ((a2 * (4 : Int32)) + x5_15) 12).bind fun _ => ((lp (fun s : Int64 × Int32 => shX2_weight_L45 a1 a2 w_chances w_wet x5_15 s.1 s.2) (x3_15, (0 : Int32))).bind (fun p : Int64 => shX2_weight_k15_69 w_barren x5_15 p (w_chances (((a2 * (4 : Int32)) + x5_15)).toNatClampNeg) ((a1 * (4 : Int32)) + x5_15)))))
noncomputable def shX2_weight (a1 : Int32) (a2 : Int32) (w_priors : Nat → Int32) (w_chances : Nat → Int32) (w_wet : Nat → Int32) (w_barren : Nat → Int32) : Option (Int64) :=
  ((gd ((a1 * (3 : Int32)) + a2) 12).bind fun _ => ((lp (fun s : Int64 × Int32 => shX2_weight_L15 a1 a2 w_chances w_wet w_barren s.1 s.2) (((w_priors (((a1 * (3 : Int32)) + a2)).toNatClampNeg)).toInt64, (0 : Int32))).bind (fun p : Int64 => shX2_weight_j_105 p)))
def wdX2_weight (cI cJ cZ : ClassId) (q_this q_priors q_chances q_wet q_barren q_pipes : Nat) (v_size : Int32) (w_priors : Nat → Int32) (w_chances : Nat → Int32) (w_wet : Nat → Int32) (w_barren : Nat → Int32) : va_W := [(q_this, .inr (2, [.ref q_priors, .ref q_chances, .ref q_wet, .ref q_barren, .ref q_pipes, .int v_size])), (q_priors, .inl (cI, 12, .inl w_priors)), (q_chances, .inl (cI, 12, .inl w_chances)), (q_wet, .inl (cI, 16, .inl w_wet)), (q_barren, .inl (cI, 16, .inl w_barren))]
abbrev rmX2_weight : Room := { frames := 0, cells := 0, slots := 0, locals := 0 }
theorem inX2_weight_X2 : ∀ w ∈ u_ws RX2 TX2 6, w ∈ wsX2_weight := fun _ h => List.mem_cons_of_mem _ (List.mem_append_right _ h)
theorem lkX2_weight_11 : Cond.fieldLink RX2 11 (TX2 0).1 (TX2 0).2.1 (TX2 0).2.2.1 ∈ wsX2_weight := List.mem_of_getElem? (i := 1) rfl
theorem lkX2_weight_15 : Cond.fieldLink RX2 15 (TX2 1).1 (TX2 1).2.1 (TX2 1).2.2.1 ∈ wsX2_weight := List.mem_of_getElem? (i := 2) rfl
theorem lkX2_weight_21 : Cond.fieldLink RX2 21 (TX2 3).1 (TX2 3).2.1 (TX2 3).2.2.1 ∈ wsX2_weight := List.mem_of_getElem? (i := 4) rfl
theorem lkX2_weight_18 : Cond.fieldLink RX2 18 (TX2 2).1 (TX2 2).2.1 (TX2 2).2.2.1 ∈ wsX2_weight := List.mem_of_getElem? (i := 3) rfl
theorem hdX2_weight : yX2_weight.cls = RX2 ∧ yX2_weight.cls ≠ "java/lang/invoke/MethodHandle" ∧ yX2_weight.cls ≠ "java/lang/invoke/VarHandle" ∧ (parseMethodDescriptor yX2_weight.desc).map (fun d => d.parameters.length) = some 2 := by decide +kernel
set_option maxHeartbeats 4000000 in
set_option maxRecDepth 100000 in
theorem ctX2_weight (l : Launch) (D : va_G) (cI cJ cZ : ClassId) (q_this q_priors q_chances q_wet q_barren q_pipes : Nat) (v_size : Int32) (w_priors : Nat → Int32) (w_chances : Nat → Int32) (w_wet : Nat → Int32) (w_barren : Nat → Int32) (a1 : Int32) (a2 : Int32) (o : Int64) (hsh : shX2_weight a1 a2 w_priors w_chances w_wet w_barren = some o) : CtL l yX2_weight wsX2_weight rmX2_weight D (tys3 cI cJ cZ) noE (wdX2_weight cI cJ cZ q_this q_priors q_chances q_wet q_barren q_pipes v_size w_priors w_chances w_wet w_barren) [.ref q_this, .int a1, .int a2] o (wdX2_weight cI cJ cZ q_this q_priors q_chances q_wet q_barren q_pipes v_size w_priors w_chances w_wet w_barren) := by
  refine ctL plX2 rfl (Nat.le_of_ble_eq_true rfl) ?_
  intro p e s m below meth c A Q S hK hA hE hret H locs hP hD hS ls hl
  replace S : CallFix p m c cX2_weight 9 s _ wsX2_weight RX2 := S
  generalize ([.ref q_this, .int a1, .int a2] : List Value).toArray = args at S hret ⊢
  obtain ⟨hx, hb, hml, hown, hts⟩ := id S
  replace hl : lv_has ls 9 [(0, .ref q_this), (1, .int a1), (2, .int a2)] := hl
  unfold shX2_weight at hsh
  have Jj_105 : ∀ (x3_j_105 : Int64) (H : Heap) (locs : List Loc), va_P D vwCl (wdX2_weight cI cJ cZ q_this q_priors q_chances q_wet q_barren q_pipes v_size w_priors w_chances w_wet w_barren) H → va_D A (wdX2_weight cI cJ cZ q_this q_priors q_chances q_wet q_barren q_pipes v_size w_priors w_chances w_wet w_barren) → va_S A s.heap H locs → ∀ ls : Array Slot, lv_has ls 9 [(3, .long x3_j_105)] → shX2_weight_j_105 x3_j_105 = some o → W p l e rmX2_weight s m args below meth c H locs 0 0 Q (F0 m 105 ls []) := by
    intro x3_j_105 H locs hP hD hS ls hl hsh
    unfold shX2_weight_j_105 at hsh
    refine lv_lload_n hx hb dX2_weight_105 rfl (lv_at hl 0 rfl) ?_
    have ho := Option.some.inj hsh
    rw [← ho] at hret
    exact hret _ _ _ _ dX2_weight_106 hP hD hS
  refine lv_aload_n hx hb dX2_weight_0 rfl (lv_at hl 0 rfl) ?_
  refine kget (ci := 2) S hK hP rfl inX2_weight_X2 0 rfl 0 (by decide) lkX2_weight_11 rfl dX2_weight_1 ?_
  refine lv_iload_n hx hb dX2_weight_4 rfl (lv_at hl 1 rfl) ?_
  refine lv_iconst (v := (3 : Int32)) hx hb dX2_weight_5 (by decide) ?_
  refine lv_imul hx hb dX2_weight_6 ?_
  refine lv_iload_n hx hb dX2_weight_7 rfl (lv_at hl 2 rfl) ?_
  refine lv_iadd hx hb dX2_weight_8 ?_
  obtain ⟨_, hg, hsh⟩ := bd hsh
  refine kial S hK hP 1 0 rfl rfl (gd_in hg) dX2_weight_9 ?_
  refine lv_i2l hx hb dX2_weight_10 rfl ?_
  refine lv_lstore_n (lv' := [(3, .long ((w_priors (((a1 * (3 : Int32)) + a2)).toNatClampNeg)).toInt64), (0, .ref q_this), (1, .int a1), (2, .int a2)]) hx hb dX2_weight_11 rfl hl (by decide) rfl (fun ls hl => ?_)
  refine lv_iconst (v := (0 : Int32)) hx hb dX2_weight_12 (by decide) ?_
  refine lv_istore (lv' := [(5, .int (0 : Int32)), (3, .long ((w_priors (((a1 * (3 : Int32)) + a2)).toNatClampNeg)).toInt64), (0, .ref q_this), (1, .int a1), (2, .int a2)]) hx hb dX2_weight_13 hl (by decide) rfl (fun ls hl => ?_)
  obtain ⟨r_15, hl_15, hk_15⟩ := bd hsh
  obtain ⟨n_15, hn_15⟩ := lp_iff.mp hl_15
  have L_15 : ∀ (n : Nat) (x3_15 : Int64) (x5_15 : Int32) (H : Heap) (locs : List Loc), va_P D vwCl (wdX2_weight cI cJ cZ q_this q_priors q_chances q_wet q_barren q_pipes v_size w_priors w_chances w_wet w_barren) H → va_D A (wdX2_weight cI cJ cZ q_this q_priors q_chances q_wet q_barren q_pipes v_size w_priors w_chances w_wet w_barren) → va_S A s.heap H locs → ∀ ls : Array Slot, lv_has ls 9 [(0, .ref q_this), (1, .int a1), (2, .int a2), (3, .long x3_15), (5, .int x5_15)] → it (fun s : Int64 × Int32 => shX2_weight_L15 a1 a2 w_chances w_wet w_barren s.1 s.2) n (x3_15, x5_15) = some r_15 → W p l e rmX2_weight s m args below meth c H locs 0 0 Q (F0 m 15 ls []) := by
    intro n
    induction n with
    | zero => exact fun _ _ _ _ _ _ _ _ _ hi => it_0 hi
    | succ n ih_15 =>
      intro x3_15 x5_15 H locs hP hD hS ls hl hi
      obtain ⟨b_15, hsh, hB1_15, hB2_15⟩ := it_b hi
      replace hsh : shX2_weight_L15 a1 a2 w_chances w_wet w_barren x3_15 x5_15 = some b_15 := hsh
      unfold shX2_weight_L15 at hsh
      have Jk15_99 : ∀ (x3_k15_99 : Int64) (H : Heap) (locs : List Loc), va_P D vwCl (wdX2_weight cI cJ cZ q_this q_priors q_chances q_wet q_barren q_pipes v_size w_priors w_chances w_wet w_barren) H → va_D A (wdX2_weight cI cJ cZ q_this q_priors q_chances q_wet q_barren q_pipes v_size w_priors w_chances w_wet w_barren) → va_S A s.heap H locs → ∀ ls : Array Slot, lv_has ls 9 [(0, .ref q_this), (1, .int a1), (2, .int a2), (3, .long x3_k15_99), (5, .int x5_15)] → shX2_weight_k15_99 x5_15 x3_k15_99 = some b_15 → W p l e rmX2_weight s m args below meth c H locs 0 0 Q (F0 m 99 ls []) := by
        intro x3_k15_99 H locs hP hD hS ls hl hsh
        unfold shX2_weight_k15_99 at hsh
        refine lv_iinc (v := (x5_15 + (1 : Int32))) (lv' := [(5, .int (x5_15 + (1 : Int32))), (0, .ref q_this), (1, .int a1), (2, .int a2), (3, .long x3_k15_99)]) hx hb dX2_weight_99 hl (k := 4) rfl (congrArg (fun z : Int32 => x5_15 + z) (by decide)) (by decide) rfl (fun ls hl => ?_)
        refine lv_goto (tgt := 15) hx hb dX2_weight_102 (by decide) ?_
        exact ih_15 x3_k15_99 (x5_15 + (1 : Int32)) H locs hP hD hS ls (lv_sub hl [1, 2, 3, 4, 0] rfl) (hB1_15 _ hsh)
      have Jk15_69 : ∀ (x3_k15_69 : Int64) (x6_k15_69 : Int32) (x7_k15_69 : Int32) (H : Heap) (locs : List Loc), va_P D vwCl (wdX2_weight cI cJ cZ q_this q_priors q_chances q_wet q_barren q_pipes v_size w_priors w_chances w_wet w_barren) H → va_D A (wdX2_weight cI cJ cZ q_this q_priors q_chances q_wet q_barren q_pipes v_size w_priors w_chances w_wet w_barren) → va_S A s.heap H locs → ∀ ls : Array Slot, lv_has ls 9 [(0, .ref q_this), (1, .int a1), (2, .int a2), (3, .long x3_k15_69), (5, .int x5_15), (6, .int x6_k15_69), (7, .int x7_k15_69)] → shX2_weight_k15_69 w_barren x5_15 x3_k15_69 x6_k15_69 x7_k15_69 = some b_15 → W p l e rmX2_weight s m args below meth c H locs 0 0 Q (F0 m 69 ls []) := by
        intro x3_k15_69 x6_k15_69 x7_k15_69 H locs hP hD hS ls hl hsh
        unfold shX2_weight_k15_69 at hsh
        refine lv_iconst (v := (0 : Int32)) hx hb dX2_weight_69 (by decide) ?_
        refine lv_istore (lv' := [(8, .int (0 : Int32)), (0, .ref q_this), (1, .int a1), (2, .int a2), (3, .long x3_k15_69), (5, .int x5_15), (6, .int x6_k15_69), (7, .int x7_k15_69)]) hx hb dX2_weight_70 hl (by decide) rfl (fun ls hl => ?_)
        obtain ⟨r_72, hl_72, hk_72⟩ := bd hsh
        obtain ⟨n_72, hn_72⟩ := lp_iff.mp hl_72
        have L_72 : ∀ (n : Nat) (x3_72 : Int64) (x8_72 : Int32) (H : Heap) (locs : List Loc), va_P D vwCl (wdX2_weight cI cJ cZ q_this q_priors q_chances q_wet q_barren q_pipes v_size w_priors w_chances w_wet w_barren) H → va_D A (wdX2_weight cI cJ cZ q_this q_priors q_chances q_wet q_barren q_pipes v_size w_priors w_chances w_wet w_barren) → va_S A s.heap H locs → ∀ ls : Array Slot, lv_has ls 9 [(0, .ref q_this), (1, .int a1), (2, .int a2), (3, .long x3_72), (5, .int x5_15), (6, .int x6_k15_69), (7, .int x7_k15_69), (8, .int x8_72)] → it (fun s : Int64 × Int32 => shX2_weight_L72 w_barren x6_k15_69 x7_k15_69 s.1 s.2) n (x3_72, x8_72) = some r_72 → W p l e rmX2_weight s m args below meth c H locs 0 0 Q (F0 m 72 ls []) := by
          intro n
          induction n with
          | zero => exact fun _ _ _ _ _ _ _ _ _ hi => it_0 hi
          | succ n ih_72 =>
            intro x3_72 x8_72 H locs hP hD hS ls hl hi
            obtain ⟨b_72, hsh, hB1_72, hB2_72⟩ := it_b hi
            replace hsh : shX2_weight_L72 w_barren x6_k15_69 x7_k15_69 x3_72 x8_72 = some b_72 := hsh
            unfold shX2_weight_L72 at hsh
            refine lv_iload hx hb dX2_weight_72 (lv_at hl 7 rfl) ?_
            refine lv_aload_n hx hb dX2_weight_74 rfl (lv_at hl 0 rfl) ?_
            refine kget (ci := 2) S hK hP rfl inX2_weight_X2 0 rfl 3 (by decide) lkX2_weight_21 rfl dX2_weight_75 ?_
            refine lv_iload hx hb dX2_weight_78 (lv_at hl 6 rfl) ?_
            obtain ⟨_, hg, hsh⟩ := bd hsh
            refine kial S hK hP 4 0 rfl rfl (gd_in hg) dX2_weight_80 ?_
            refine lv_icmp_ge (tgt := 99) hx hb dX2_weight_81 (by decide) (fun c1 => ?_) (fun c1 => ?_)
            · skip
              have hsh := ite_t hsh c1
              have he := hB2_72 _ hsh
              rw [← he] at hk_72
              exact Jk15_99 x3_72 H locs hP hD hS ls (lv_sub hl [0, 1, 2, 3, 4] rfl) hk_72
            · skip
              have hsh := ite_f hsh c1
              refine lv_lload_n hx hb dX2_weight_84 rfl (lv_at hl 3 rfl) ?_
              refine lv_bipush (v := (16 : Int32)) hx hb dX2_weight_85 (by decide) ?_
              refine lv_iload hx hb dX2_weight_87 (lv_at hl 5 rfl) ?_
              refine lv_isub hx hb dX2_weight_89 ?_
              refine lv_i2l hx hb dX2_weight_90 rfl ?_
              refine lv_lmul hx hb dX2_weight_91 ?_
              refine lv_lstore_n (lv' := [(3, .long (x3_72 * (((16 : Int32) - x6_k15_69)).toInt64)), (0, .ref q_this), (1, .int a1), (2, .int a2), (5, .int x5_15), (6, .int x6_k15_69), (7, .int x7_k15_69), (8, .int x8_72)]) hx hb dX2_weight_92 rfl hl (by decide) rfl (fun ls hl => ?_)
              refine lv_iinc (v := (x8_72 + (1 : Int32))) (lv' := [(8, .int (x8_72 + (1 : Int32))), (3, .long (x3_72 * (((16 : Int32) - x6_k15_69)).toInt64)), (0, .ref q_this), (1, .int a1), (2, .int a2), (5, .int x5_15), (6, .int x6_k15_69), (7, .int x7_k15_69)]) hx hb dX2_weight_93 hl (k := 7) rfl (congrArg (fun z : Int32 => x8_72 + z) (by decide)) (by decide) rfl (fun ls hl => ?_)
              refine lv_goto (tgt := 72) hx hb dX2_weight_96 (by decide) ?_
              exact ih_72 (x3_72 * (((16 : Int32) - x6_k15_69)).toInt64) (x8_72 + (1 : Int32)) H locs hP hD hS ls (lv_sub hl [2, 3, 4, 1, 5, 6, 7, 0] rfl) (hB1_72 _ hsh)
        exact L_72 n_72 x3_k15_69 (0 : Int32) H locs hP hD hS ls (lv_sub hl [1, 2, 3, 4, 5, 6, 7, 0] rfl) hn_72
      refine lv_iload hx hb dX2_weight_15 (lv_at hl 4 rfl) ?_
      refine lv_iconst (v := (4 : Int32)) hx hb dX2_weight_17 (by decide) ?_
      refine lv_icmp_ge (tgt := 105) hx hb dX2_weight_18 (by decide) (fun c1 => ?_) (fun c1 => ?_)
      · skip
        have hsh := ite_t hsh c1
        have he := hB2_15 _ hsh
        rw [← he] at hk_15
        exact Jj_105 x3_15 H locs hP hD hS ls (lv_sub hl [3] rfl) hk_15
      · skip
        have hsh := ite_f hsh c1
        refine lv_aload_n hx hb dX2_weight_21 rfl (lv_at hl 0 rfl) ?_
        refine kget (ci := 2) S hK hP rfl inX2_weight_X2 0 rfl 1 (by decide) lkX2_weight_15 rfl dX2_weight_22 ?_
        refine lv_iload_n hx hb dX2_weight_25 rfl (lv_at hl 2 rfl) ?_
        refine lv_iconst (v := (4 : Int32)) hx hb dX2_weight_26 (by decide) ?_
        refine lv_imul hx hb dX2_weight_27 ?_
        refine lv_iload hx hb dX2_weight_28 (lv_at hl 4 rfl) ?_
        refine lv_iadd hx hb dX2_weight_30 ?_
        obtain ⟨_, hg, hsh⟩ := bd hsh
        refine kial S hK hP 2 0 rfl rfl (gd_in hg) dX2_weight_31 ?_
        refine lv_istore (lv' := [(6, .int (w_chances (((a2 * (4 : Int32)) + x5_15)).toNatClampNeg)), (0, .ref q_this), (1, .int a1), (2, .int a2), (3, .long x3_15), (5, .int x5_15)]) hx hb dX2_weight_32 hl (by decide) rfl (fun ls hl => ?_)
        refine lv_iload_n hx hb dX2_weight_34 rfl (lv_at hl 2 rfl) ?_
        refine lv_iconst (v := (4 : Int32)) hx hb dX2_weight_35 (by decide) ?_
        refine lv_imul hx hb dX2_weight_36 ?_
        refine lv_iload hx hb dX2_weight_37 (lv_at hl 5 rfl) ?_
        refine lv_iadd hx hb dX2_weight_39 ?_
        refine lv_istore (lv' := [(7, .int ((a1 * (4 : Int32)) + x5_15)), (6, .int (w_chances (((a2 * (4 : Int32)) + x5_15)).toNatClampNeg)), (0, .ref q_this), (1, .int a1), (2, .int a2), (3, .long x3_15), (5, .int x5_15)]) hx hb dX2_weight_40 hl (by decide) rfl (fun ls hl => ?_)
        refine lv_iconst (v := (0 : Int32)) hx hb dX2_weight_42 (by decide) ?_
        refine lv_istore (lv' := [(8, .int (0 : Int32)), (7, .int ((a1 * (4 : Int32)) + x5_15)), (6, .int (w_chances (((a2 * (4 : Int32)) + x5_15)).toNatClampNeg)), (0, .ref q_this), (1, .int a1), (2, .int a2), (3, .long x3_15), (5, .int x5_15)]) hx hb dX2_weight_43 hl (by decide) rfl (fun ls hl => ?_)
        obtain ⟨r_45, hl_45, hk_45⟩ := bd hsh
        obtain ⟨n_45, hn_45⟩ := lp_iff.mp hl_45
        have L_45 : ∀ (n : Nat) (x3_45 : Int64) (x8_45 : Int32) (H : Heap) (locs : List Loc), va_P D vwCl (wdX2_weight cI cJ cZ q_this q_priors q_chances q_wet q_barren q_pipes v_size w_priors w_chances w_wet w_barren) H → va_D A (wdX2_weight cI cJ cZ q_this q_priors q_chances q_wet q_barren q_pipes v_size w_priors w_chances w_wet w_barren) → va_S A s.heap H locs → ∀ ls : Array Slot, lv_has ls 9 [(0, .ref q_this), (1, .int a1), (2, .int a2), (3, .long x3_45), (5, .int x5_15), (6, .int (w_chances (((a2 * (4 : Int32)) + x5_15)).toNatClampNeg)), (7, .int ((a1 * (4 : Int32)) + x5_15)), (8, .int x8_45)] → it (fun s : Int64 × Int32 => shX2_weight_L45 a1 a2 w_chances w_wet x5_15 s.1 s.2) n (x3_45, x8_45) = some r_45 → W p l e rmX2_weight s m args below meth c H locs 0 0 Q (F0 m 45 ls []) := by
          intro n
          induction n with
          | zero => exact fun _ _ _ _ _ _ _ _ _ hi => it_0 hi
          | succ n ih_45 =>
            intro x3_45 x8_45 H locs hP hD hS ls hl hi
            obtain ⟨b_45, hsh, hB1_45, hB2_45⟩ := it_b hi
            replace hsh : shX2_weight_L45 a1 a2 w_chances w_wet x5_15 x3_45 x8_45 = some b_45 := hsh
            unfold shX2_weight_L45 at hsh
            refine lv_iload hx hb dX2_weight_45 (lv_at hl 7 rfl) ?_
            refine lv_aload_n hx hb dX2_weight_47 rfl (lv_at hl 0 rfl) ?_
            refine kget (ci := 2) S hK hP rfl inX2_weight_X2 0 rfl 2 (by decide) lkX2_weight_18 rfl dX2_weight_48 ?_
            refine lv_iload hx hb dX2_weight_51 (lv_at hl 6 rfl) ?_
            obtain ⟨_, hg, hsh⟩ := bd hsh
            refine kial S hK hP 3 0 rfl rfl (gd_in hg) dX2_weight_53 ?_
            refine lv_icmp_ge (tgt := 69) hx hb dX2_weight_54 (by decide) (fun c1 => ?_) (fun c1 => ?_)
            · skip
              have hsh := ite_t hsh c1
              have he := hB2_45 _ hsh
              rw [← he] at hk_45
              exact Jk15_69 x3_45 (w_chances (((a2 * (4 : Int32)) + x5_15)).toNatClampNeg) ((a1 * (4 : Int32)) + x5_15) H locs hP hD hS ls (lv_sub hl [0, 1, 2, 3, 4, 5, 6] rfl) hk_45
            · skip
              have hsh := ite_f hsh c1
              refine lv_lload_n hx hb dX2_weight_57 rfl (lv_at hl 3 rfl) ?_
              refine lv_iload hx hb dX2_weight_58 (lv_at hl 5 rfl) ?_
              refine lv_i2l hx hb dX2_weight_60 rfl ?_
              refine lv_lmul hx hb dX2_weight_61 ?_
              refine lv_lstore_n (lv' := [(3, .long (x3_45 * ((w_chances (((a2 * (4 : Int32)) + x5_15)).toNatClampNeg)).toInt64)), (0, .ref q_this), (1, .int a1), (2, .int a2), (5, .int x5_15), (6, .int (w_chances (((a2 * (4 : Int32)) + x5_15)).toNatClampNeg)), (7, .int ((a1 * (4 : Int32)) + x5_15)), (8, .int x8_45)]) hx hb dX2_weight_62 rfl hl (by decide) rfl (fun ls hl => ?_)
              refine lv_iinc (v := (x8_45 + (1 : Int32))) (lv' := [(8, .int (x8_45 + (1 : Int32))), (3, .long (x3_45 * ((w_chances (((a2 * (4 : Int32)) + x5_15)).toNatClampNeg)).toInt64)), (0, .ref q_this), (1, .int a1), (2, .int a2), (5, .int x5_15), (6, .int (w_chances (((a2 * (4 : Int32)) + x5_15)).toNatClampNeg)), (7, .int ((a1 * (4 : Int32)) + x5_15))]) hx hb dX2_weight_63 hl (k := 7) rfl (congrArg (fun z : Int32 => x8_45 + z) (by decide)) (by decide) rfl (fun ls hl => ?_)
              refine lv_goto (tgt := 45) hx hb dX2_weight_66 (by decide) ?_
              exact ih_45 (x3_45 * ((w_chances (((a2 * (4 : Int32)) + x5_15)).toNatClampNeg)).toInt64) (x8_45 + (1 : Int32)) H locs hP hD hS ls (lv_sub hl [2, 3, 4, 1, 5, 6, 7, 0] rfl) (hB1_45 _ hsh)
        exact L_45 n_45 x3_15 (0 : Int32) H locs hP hD hS ls (lv_sub hl [3, 4, 5, 6, 7, 2, 1, 0] rfl) hn_45
  exact L_15 n_15 ((w_priors (((a1 * (3 : Int32)) + a2)).toNatClampNeg)).toInt64 (0 : Int32) H locs hP hD hS ls (lv_sub hl [2, 3, 4, 1, 0] rfl) hn_15

/-! DryWells$Rocks.allWeights -/
noncomputable def shX2_allWeights_j_27 (x2_j_27 : Int64) : Option (Int64) :=
  some x2_j_27
noncomputable def shX2_allWeights_L5 (a1 : Int32) (w_priors : Nat → Int32) (w_chances : Nat → Int32) (w_wet : Nat → Int32) (w_barren : Nat → Int32) (x2_5 : Int64) (x4_5 : Int32) : Option ((Int64 × Int32) ⊕ ((Int64))) :=
  (if (3 : Int32) ≤ x4_5 then some (Sum.inr x2_5) else ((shX2_weight a1 x4_5 w_priors w_chances w_wet w_barren).bind fun o_16 => some (Sum.inl ((x2_5 + o_16), (x4_5 + (1 : Int32))))))
noncomputable def shX2_allWeights (a1 : Int32) (w_priors : Nat → Int32) (w_chances : Nat → Int32) (w_wet : Nat → Int32) (w_barren : Nat → Int32) : Option (Int64) :=
  ((lp (fun s : Int64 × Int32 => shX2_allWeights_L5 a1 w_priors w_chances w_wet w_barren s.1 s.2) ((0 : Int64), (0 : Int32))).bind (fun p : Int64 => shX2_allWeights_j_27 p))
def wdX2_allWeights (cI cJ cZ : ClassId) (q_this q_priors q_chances q_wet q_barren q_pipes : Nat) (v_size : Int32) (w_priors : Nat → Int32) (w_chances : Nat → Int32) (w_wet : Nat → Int32) (w_barren : Nat → Int32) : va_W := [(q_this, .inr (2, [.ref q_priors, .ref q_chances, .ref q_wet, .ref q_barren, .ref q_pipes, .int v_size])), (q_priors, .inl (cI, 12, .inl w_priors)), (q_chances, .inl (cI, 12, .inl w_chances)), (q_wet, .inl (cI, 16, .inl w_wet)), (q_barren, .inl (cI, 16, .inl w_barren))]
abbrev rmX2_allWeights : Room := { frames := 1, cells := 0, slots := 0, locals := 28 }
theorem inX2_allWeights_X2 : ∀ w ∈ u_ws RX2 TX2 6, w ∈ wsX2_allWeights := fun _ h => List.mem_cons_of_mem _ (List.mem_append_right _ h)
theorem hdX2_allWeights : yX2_allWeights.cls = RX2 ∧ yX2_allWeights.cls ≠ "java/lang/invoke/MethodHandle" ∧ yX2_allWeights.cls ≠ "java/lang/invoke/VarHandle" ∧ (parseMethodDescriptor yX2_allWeights.desc).map (fun d => d.parameters.length) = some 1 := by decide +kernel
set_option maxHeartbeats 4000000 in
set_option maxRecDepth 100000 in
theorem ctX2_allWeights (l : Launch) (D : va_G) (cI cJ cZ : ClassId) (q_this q_priors q_chances q_wet q_barren q_pipes : Nat) (v_size : Int32) (w_priors : Nat → Int32) (w_chances : Nat → Int32) (w_wet : Nat → Int32) (w_barren : Nat → Int32) (a1 : Int32) (o : Int64) (hsh : shX2_allWeights a1 w_priors w_chances w_wet w_barren = some o) : CtL l yX2_allWeights wsX2_allWeights rmX2_allWeights D (tys3 cI cJ cZ) noE (wdX2_allWeights cI cJ cZ q_this q_priors q_chances q_wet q_barren q_pipes v_size w_priors w_chances w_wet w_barren) [.ref q_this, .int a1] o (wdX2_allWeights cI cJ cZ q_this q_priors q_chances q_wet q_barren q_pipes v_size w_priors w_chances w_wet w_barren) := by
  refine ctL plX2 rfl (Nat.le_of_ble_eq_true rfl) ?_
  intro p e s m below meth c A Q S hK hA hE hret H locs hP hD hS ls hl
  replace S : CallFix p m c cX2_allWeights 5 s _ wsX2_allWeights RX2 := S
  generalize ([.ref q_this, .int a1] : List Value).toArray = args at S hret ⊢
  obtain ⟨hx, hb, hml, hown, hts⟩ := id S
  replace hl : lv_has ls 5 [(0, .ref q_this), (1, .int a1)] := hl
  unfold shX2_allWeights at hsh
  have Jj_27 : ∀ (x2_j_27 : Int64) (H : Heap) (locs : List Loc), va_P D vwCl (wdX2_allWeights cI cJ cZ q_this q_priors q_chances q_wet q_barren q_pipes v_size w_priors w_chances w_wet w_barren) H → va_D A (wdX2_allWeights cI cJ cZ q_this q_priors q_chances q_wet q_barren q_pipes v_size w_priors w_chances w_wet w_barren) → va_S A s.heap H locs → ∀ ls : Array Slot, lv_has ls 5 [(2, .long x2_j_27)] → shX2_allWeights_j_27 x2_j_27 = some o → W p l e rmX2_allWeights s m args below meth c H locs 0 0 Q (F0 m 27 ls []) := by
    intro x2_j_27 H locs hP hD hS ls hl hsh
    unfold shX2_allWeights_j_27 at hsh
    refine lv_lload_n hx hb dX2_allWeights_27 rfl (lv_at hl 0 rfl) ?_
    have ho := Option.some.inj hsh
    rw [← ho] at hret
    exact hret _ _ _ _ dX2_allWeights_28 hP hD hS
  refine lv_lconst (v := (0 : Int64)) hx hb dX2_allWeights_0 (by decide) ?_
  refine lv_lstore_n (lv' := [(2, .long (0 : Int64)), (0, .ref q_this), (1, .int a1)]) hx hb dX2_allWeights_1 rfl hl (by decide) rfl (fun ls hl => ?_)
  refine lv_iconst (v := (0 : Int32)) hx hb dX2_allWeights_2 (by decide) ?_
  refine lv_istore (lv' := [(4, .int (0 : Int32)), (2, .long (0 : Int64)), (0, .ref q_this), (1, .int a1)]) hx hb dX2_allWeights_3 hl (by decide) rfl (fun ls hl => ?_)
  obtain ⟨r_5, hl_5, hk_5⟩ := bd hsh
  obtain ⟨n_5, hn_5⟩ := lp_iff.mp hl_5
  have L_5 : ∀ (n : Nat) (x2_5 : Int64) (x4_5 : Int32) (H : Heap) (locs : List Loc), va_P D vwCl (wdX2_allWeights cI cJ cZ q_this q_priors q_chances q_wet q_barren q_pipes v_size w_priors w_chances w_wet w_barren) H → va_D A (wdX2_allWeights cI cJ cZ q_this q_priors q_chances q_wet q_barren q_pipes v_size w_priors w_chances w_wet w_barren) → va_S A s.heap H locs → ∀ ls : Array Slot, lv_has ls 5 [(0, .ref q_this), (1, .int a1), (2, .long x2_5), (4, .int x4_5)] → it (fun s : Int64 × Int32 => shX2_allWeights_L5 a1 w_priors w_chances w_wet w_barren s.1 s.2) n (x2_5, x4_5) = some r_5 → W p l e rmX2_allWeights s m args below meth c H locs 0 0 Q (F0 m 5 ls []) := by
    intro n
    induction n with
    | zero => exact fun _ _ _ _ _ _ _ _ _ hi => it_0 hi
    | succ n ih_5 =>
      intro x2_5 x4_5 H locs hP hD hS ls hl hi
      obtain ⟨b_5, hsh, hB1_5, hB2_5⟩ := it_b hi
      replace hsh : shX2_allWeights_L5 a1 w_priors w_chances w_wet w_barren x2_5 x4_5 = some b_5 := hsh
      unfold shX2_allWeights_L5 at hsh
      refine lv_iload hx hb dX2_allWeights_5 (lv_at hl 3 rfl) ?_
      refine lv_iconst (v := (3 : Int32)) hx hb dX2_allWeights_7 (by decide) ?_
      refine lv_icmp_ge (tgt := 27) hx hb dX2_allWeights_8 (by decide) (fun c1 => ?_) (fun c1 => ?_)
      · skip
        have hsh := ite_t hsh c1
        have he := hB2_5 _ hsh
        rw [← he] at hk_5
        exact Jj_27 x2_5 H locs hP hD hS ls (lv_sub hl [2] rfl) hk_5
      · skip
        have hsh := ite_f hsh c1
        refine lv_lload_n hx hb dX2_allWeights_11 rfl (lv_at hl 2 rfl) ?_
        refine lv_aload_n hx hb dX2_allWeights_12 rfl (lv_at hl 0 rfl) ?_
        refine lv_iload_n hx hb dX2_allWeights_13 rfl (lv_at hl 1 rfl) ?_
        refine lv_iload hx hb dX2_allWeights_14 (lv_at hl 3 rfl) ?_
        obtain ⟨o_16, he, hsh⟩ := bd hsh
        refine kVl (ci := 2) S hK hA (ctX2_weight l D cI cJ cZ q_this q_priors q_chances q_wet q_barren q_pipes v_size w_priors w_chances w_wet w_barren a1 x4_5 o_16 he) noE_cl (cwV 2 hts gX2_allWeights_X2_weight rfl rfl rfl hdX2_weight ⟨Nat.le_of_ble_eq_true rfl, Nat.le_of_ble_eq_true rfl⟩) rfl 0 rfl [0, 1, 2, 3, 4] [] [0, 1, 2, 3, 4] (ws' := (wdX2_allWeights cI cJ cZ q_this q_priors q_chances q_wet q_barren q_pipes v_size w_priors w_chances w_wet w_barren)) ⟨rfl, rfl, rfl, rfl, rfl, rfl, rfl⟩ trivial rfl hl.1 rfl (Nat.le_of_ble_eq_true rfl) dX2_allWeights_16 hP hD hS (fun H locs hP hD hS => ?_)
        refine lv_ladd hx hb dX2_allWeights_19 ?_
        refine lv_lstore_n (lv' := [(2, .long (x2_5 + o_16)), (0, .ref q_this), (1, .int a1), (4, .int x4_5)]) hx hb dX2_allWeights_20 rfl hl (by decide) rfl (fun ls hl => ?_)
        refine lv_iinc (v := (x4_5 + (1 : Int32))) (lv' := [(4, .int (x4_5 + (1 : Int32))), (2, .long (x2_5 + o_16)), (0, .ref q_this), (1, .int a1)]) hx hb dX2_allWeights_21 hl (k := 3) rfl (congrArg (fun z : Int32 => x4_5 + z) (by decide)) (by decide) rfl (fun ls hl => ?_)
        refine lv_goto (tgt := 5) hx hb dX2_allWeights_24 (by decide) ?_
        exact ih_5 (x2_5 + o_16) (x4_5 + (1 : Int32)) H locs hP hD hS ls (lv_sub hl [2, 3, 1, 0] rfl) (hB1_5 _ hsh)
  exact L_5 n_5 (0 : Int64) (0 : Int32) H locs hP hD hS ls (lv_sub hl [2, 3, 1, 0] rfl) hn_5

/-! DryWells$Rocks.wetParts -/
noncomputable def shX2_wetParts_j_35 (a2 : Int32) (x3_j_35 : Int64) : Option (Int64) :=
  some (((1 : Int64) <<< ((((4 : Int32) * a2)).toInt64 &&& 63)) - x3_j_35)
noncomputable def shX2_wetParts_L5 (a1 : Int32) (a2 : Int32) (w_chances : Nat → Int32) (x3_5 : Int64) (x5_5 : Int32) : Option ((Int64 × Int32) ⊕ ((Int64))) :=
  (if a2 ≤ x5_5 then some (Sum.inr x3_5) else ((gd ((a1 * (4 : Int32)) + x5_5) 12).bind fun _ => some (Sum.inl ((x3_5 * (((16 : Int32) - (w_chances (((a1 * (4 : Int32)) + x5_5)).toNatClampNeg))).toInt64), (x5_5 + (1 : Int32))))))
noncomputable def shX2_wetParts (a1 : Int32) (a2 : Int32) (w_chances : Nat → Int32) : Option (Int64) :=
  ((lp (fun s : Int64 × Int32 => shX2_wetParts_L5 a1 a2 w_chances s.1 s.2) ((1 : Int64), (0 : Int32))).bind (fun p : Int64 => shX2_wetParts_j_35 a2 p))
def wdX2_wetParts (cI cJ cZ : ClassId) (q_this q_priors q_chances q_wet q_barren q_pipes : Nat) (v_size : Int32) (w_chances : Nat → Int32) : va_W := [(q_this, .inr (2, [.ref q_priors, .ref q_chances, .ref q_wet, .ref q_barren, .ref q_pipes, .int v_size])), (q_chances, .inl (cI, 12, .inl w_chances))]
abbrev rmX2_wetParts : Room := { frames := 0, cells := 0, slots := 0, locals := 0 }
theorem inX2_wetParts_X2 : ∀ w ∈ u_ws RX2 TX2 6, w ∈ wsX2_wetParts := fun _ h => List.mem_cons_of_mem _ (List.mem_append_right _ h)
theorem lkX2_wetParts_15 : Cond.fieldLink RX2 15 (TX2 1).1 (TX2 1).2.1 (TX2 1).2.2.1 ∈ wsX2_wetParts := List.mem_of_getElem? (i := 1) rfl
theorem hdX2_wetParts : yX2_wetParts.cls = RX2 ∧ yX2_wetParts.cls ≠ "java/lang/invoke/MethodHandle" ∧ yX2_wetParts.cls ≠ "java/lang/invoke/VarHandle" ∧ (parseMethodDescriptor yX2_wetParts.desc).map (fun d => d.parameters.length) = some 2 := by decide +kernel
set_option maxHeartbeats 4000000 in
set_option maxRecDepth 100000 in
theorem ctX2_wetParts (l : Launch) (D : va_G) (cI cJ cZ : ClassId) (q_this q_priors q_chances q_wet q_barren q_pipes : Nat) (v_size : Int32) (w_chances : Nat → Int32) (a1 : Int32) (a2 : Int32) (o : Int64) (hsh : shX2_wetParts a1 a2 w_chances = some o) : CtL l yX2_wetParts wsX2_wetParts rmX2_wetParts D (tys3 cI cJ cZ) noE (wdX2_wetParts cI cJ cZ q_this q_priors q_chances q_wet q_barren q_pipes v_size w_chances) [.ref q_this, .int a1, .int a2] o (wdX2_wetParts cI cJ cZ q_this q_priors q_chances q_wet q_barren q_pipes v_size w_chances) := by
  refine ctL plX2 rfl (Nat.le_of_ble_eq_true rfl) ?_
  intro p e s m below meth c A Q S hK hA hE hret H locs hP hD hS ls hl
  replace S : CallFix p m c cX2_wetParts 6 s _ wsX2_wetParts RX2 := S
  generalize ([.ref q_this, .int a1, .int a2] : List Value).toArray = args at S hret ⊢
  obtain ⟨hx, hb, hml, hown, hts⟩ := id S
  replace hl : lv_has ls 6 [(0, .ref q_this), (1, .int a1), (2, .int a2)] := hl
  unfold shX2_wetParts at hsh
  have Jj_35 : ∀ (x3_j_35 : Int64) (H : Heap) (locs : List Loc), va_P D vwCl (wdX2_wetParts cI cJ cZ q_this q_priors q_chances q_wet q_barren q_pipes v_size w_chances) H → va_D A (wdX2_wetParts cI cJ cZ q_this q_priors q_chances q_wet q_barren q_pipes v_size w_chances) → va_S A s.heap H locs → ∀ ls : Array Slot, lv_has ls 6 [(2, .int a2), (3, .long x3_j_35)] → shX2_wetParts_j_35 a2 x3_j_35 = some o → W p l e rmX2_wetParts s m args below meth c H locs 0 0 Q (F0 m 35 ls []) := by
    intro x3_j_35 H locs hP hD hS ls hl hsh
    unfold shX2_wetParts_j_35 at hsh
    refine lv_lconst (v := (1 : Int64)) hx hb dX2_wetParts_35 (by decide) ?_
    refine lv_iconst (v := (4 : Int32)) hx hb dX2_wetParts_36 (by decide) ?_
    refine lv_iload_n hx hb dX2_wetParts_37 rfl (lv_at hl 0 rfl) ?_
    refine lv_imul hx hb dX2_wetParts_38 ?_
    refine lv_lshl hx hb dX2_wetParts_39 rfl ?_
    refine lv_lload_n hx hb dX2_wetParts_40 rfl (lv_at hl 1 rfl) ?_
    refine lv_lsub hx hb dX2_wetParts_41 ?_
    have ho := Option.some.inj hsh
    rw [← ho] at hret
    exact hret _ _ _ _ dX2_wetParts_42 hP hD hS
  refine lv_lconst (v := (1 : Int64)) hx hb dX2_wetParts_0 (by decide) ?_
  refine lv_lstore_n (lv' := [(3, .long (1 : Int64)), (0, .ref q_this), (1, .int a1), (2, .int a2)]) hx hb dX2_wetParts_1 rfl hl (by decide) rfl (fun ls hl => ?_)
  refine lv_iconst (v := (0 : Int32)) hx hb dX2_wetParts_2 (by decide) ?_
  refine lv_istore (lv' := [(5, .int (0 : Int32)), (3, .long (1 : Int64)), (0, .ref q_this), (1, .int a1), (2, .int a2)]) hx hb dX2_wetParts_3 hl (by decide) rfl (fun ls hl => ?_)
  obtain ⟨r_5, hl_5, hk_5⟩ := bd hsh
  obtain ⟨n_5, hn_5⟩ := lp_iff.mp hl_5
  have L_5 : ∀ (n : Nat) (x3_5 : Int64) (x5_5 : Int32) (H : Heap) (locs : List Loc), va_P D vwCl (wdX2_wetParts cI cJ cZ q_this q_priors q_chances q_wet q_barren q_pipes v_size w_chances) H → va_D A (wdX2_wetParts cI cJ cZ q_this q_priors q_chances q_wet q_barren q_pipes v_size w_chances) → va_S A s.heap H locs → ∀ ls : Array Slot, lv_has ls 6 [(0, .ref q_this), (1, .int a1), (2, .int a2), (3, .long x3_5), (5, .int x5_5)] → it (fun s : Int64 × Int32 => shX2_wetParts_L5 a1 a2 w_chances s.1 s.2) n (x3_5, x5_5) = some r_5 → W p l e rmX2_wetParts s m args below meth c H locs 0 0 Q (F0 m 5 ls []) := by
    intro n
    induction n with
    | zero => exact fun _ _ _ _ _ _ _ _ _ hi => it_0 hi
    | succ n ih_5 =>
      intro x3_5 x5_5 H locs hP hD hS ls hl hi
      obtain ⟨b_5, hsh, hB1_5, hB2_5⟩ := it_b hi
      replace hsh : shX2_wetParts_L5 a1 a2 w_chances x3_5 x5_5 = some b_5 := hsh
      unfold shX2_wetParts_L5 at hsh
      refine lv_iload hx hb dX2_wetParts_5 (lv_at hl 4 rfl) ?_
      refine lv_iload_n hx hb dX2_wetParts_7 rfl (lv_at hl 2 rfl) ?_
      refine lv_icmp_ge (tgt := 35) hx hb dX2_wetParts_8 (by decide) (fun c1 => ?_) (fun c1 => ?_)
      · skip
        have hsh := ite_t hsh c1
        have he := hB2_5 _ hsh
        rw [← he] at hk_5
        exact Jj_35 x3_5 H locs hP hD hS ls (lv_sub hl [2, 3] rfl) hk_5
      · skip
        have hsh := ite_f hsh c1
        refine lv_lload_n hx hb dX2_wetParts_11 rfl (lv_at hl 3 rfl) ?_
        refine lv_bipush (v := (16 : Int32)) hx hb dX2_wetParts_12 (by decide) ?_
        refine lv_aload_n hx hb dX2_wetParts_14 rfl (lv_at hl 0 rfl) ?_
        refine kget (ci := 2) S hK hP rfl inX2_wetParts_X2 0 rfl 1 (by decide) lkX2_wetParts_15 rfl dX2_wetParts_15 ?_
        refine lv_iload_n hx hb dX2_wetParts_18 rfl (lv_at hl 1 rfl) ?_
        refine lv_iconst (v := (4 : Int32)) hx hb dX2_wetParts_19 (by decide) ?_
        refine lv_imul hx hb dX2_wetParts_20 ?_
        refine lv_iload hx hb dX2_wetParts_21 (lv_at hl 4 rfl) ?_
        refine lv_iadd hx hb dX2_wetParts_23 ?_
        obtain ⟨_, hg, hsh⟩ := bd hsh
        refine kial S hK hP 1 0 rfl rfl (gd_in hg) dX2_wetParts_24 ?_
        refine lv_isub hx hb dX2_wetParts_25 ?_
        refine lv_i2l hx hb dX2_wetParts_26 rfl ?_
        refine lv_lmul hx hb dX2_wetParts_27 ?_
        refine lv_lstore_n (lv' := [(3, .long (x3_5 * (((16 : Int32) - (w_chances (((a1 * (4 : Int32)) + x5_5)).toNatClampNeg))).toInt64)), (0, .ref q_this), (1, .int a1), (2, .int a2), (5, .int x5_5)]) hx hb dX2_wetParts_28 rfl hl (by decide) rfl (fun ls hl => ?_)
        refine lv_iinc (v := (x5_5 + (1 : Int32))) (lv' := [(5, .int (x5_5 + (1 : Int32))), (3, .long (x3_5 * (((16 : Int32) - (w_chances (((a1 * (4 : Int32)) + x5_5)).toNatClampNeg))).toInt64)), (0, .ref q_this), (1, .int a1), (2, .int a2)]) hx hb dX2_wetParts_29 hl (k := 4) rfl (congrArg (fun z : Int32 => x5_5 + z) (by decide)) (by decide) rfl (fun ls hl => ?_)
        refine lv_goto (tgt := 5) hx hb dX2_wetParts_32 (by decide) ?_
        exact ih_5 (x3_5 * (((16 : Int32) - (w_chances (((a1 * (4 : Int32)) + x5_5)).toNatClampNeg))).toInt64) (x5_5 + (1 : Int32)) H locs hP hD hS ls (lv_sub hl [2, 3, 4, 1, 0] rfl) (hB1_5 _ hsh)
  exact L_5 n_5 (1 : Int64) (0 : Int32) H locs hP hD hS ls (lv_sub hl [2, 3, 4, 1, 0] rfl) hn_5

/-! DryWells$Rocks.hopeOn -/
noncomputable def shX2_hopeOn_j_52 (a2 : Int32) (x3_j_52 : Int64) (x5_j_52 : Int64) : Option (Int32) :=
  ((gq x3_j_52).bind fun _ => some (((x5_j_52 <<< ((((20 : Int32) - ((4 : Int32) * a2))).toInt64 &&& 63)) / x3_j_52)).toInt32)
noncomputable def shX2_hopeOn_L20 (a1 : Int32) (a2 : Int32) (w_priors : Nat → Int32) (w_chances : Nat → Int32) (w_wet : Nat → Int32) (w_barren : Nat → Int32) (x5_20 : Int64) (x7_20 : Int32) : Option ((Int64 × Int32) ⊕ ((Int64))) :=
  (if (3 : Int32) ≤ x7_20 then some (Sum.inr x5_20) else ((shX2_weight a1 x7_20 w_priors w_chances w_wet w_barren).bind fun o_32 => ((shX2_wetParts x7_20 a2 w_chances).bind fun o_39 => some (Sum.inl ((x5_20 + (o_32 * o_39)), (x7_20 + (1 : Int32)))))))
noncomputable def shX2_hopeOn (a1 : Int32) (a2 : Int32) (w_priors : Nat → Int32) (w_chances : Nat → Int32) (w_wet : Nat → Int32) (w_barren : Nat → Int32) : Option (Int32) :=
  ((shX2_allWeights a1 w_priors w_chances w_wet w_barren).bind fun o_2 => (if ¬ o_2 = (0 : Int64) then ((lp (fun s : Int64 × Int32 => shX2_hopeOn_L20 a1 a2 w_priors w_chances w_wet w_barren s.1 s.2) ((0 : Int64), (0 : Int32))).bind (fun p : Int64 => shX2_hopeOn_j_52 a2 o_2 p)) else some (0 : Int32)))
def wdX2_hopeOn (cI cJ cZ : ClassId) (q_this q_priors q_chances q_wet q_barren q_pipes : Nat) (v_size : Int32) (w_priors : Nat → Int32) (w_chances : Nat → Int32) (w_wet : Nat → Int32) (w_barren : Nat → Int32) : va_W := [(q_this, .inr (2, [.ref q_priors, .ref q_chances, .ref q_wet, .ref q_barren, .ref q_pipes, .int v_size])), (q_priors, .inl (cI, 12, .inl w_priors)), (q_chances, .inl (cI, 12, .inl w_chances)), (q_wet, .inl (cI, 16, .inl w_wet)), (q_barren, .inl (cI, 16, .inl w_barren))]
abbrev rmX2_hopeOn : Room := { frames := 2, cells := 0, slots := 0, locals := 52 }
theorem inX2_hopeOn_X2 : ∀ w ∈ u_ws RX2 TX2 6, w ∈ wsX2_hopeOn := fun _ h => List.mem_cons_of_mem _ (List.mem_append_right _ h)
theorem hdX2_hopeOn : yX2_hopeOn.cls = RX2 ∧ yX2_hopeOn.cls ≠ "java/lang/invoke/MethodHandle" ∧ yX2_hopeOn.cls ≠ "java/lang/invoke/VarHandle" ∧ (parseMethodDescriptor yX2_hopeOn.desc).map (fun d => d.parameters.length) = some 2 := by decide +kernel
set_option maxHeartbeats 4000000 in
set_option maxRecDepth 100000 in
theorem ctX2_hopeOn (l : Launch) (D : va_G) (cI cJ cZ : ClassId) (q_this q_priors q_chances q_wet q_barren q_pipes : Nat) (v_size : Int32) (w_priors : Nat → Int32) (w_chances : Nat → Int32) (w_wet : Nat → Int32) (w_barren : Nat → Int32) (a1 : Int32) (a2 : Int32) (o : Int32) (hsh : shX2_hopeOn a1 a2 w_priors w_chances w_wet w_barren = some o) : CtI l yX2_hopeOn wsX2_hopeOn rmX2_hopeOn D (tys3 cI cJ cZ) noE (wdX2_hopeOn cI cJ cZ q_this q_priors q_chances q_wet q_barren q_pipes v_size w_priors w_chances w_wet w_barren) [.ref q_this, .int a1, .int a2] o (wdX2_hopeOn cI cJ cZ q_this q_priors q_chances q_wet q_barren q_pipes v_size w_priors w_chances w_wet w_barren) := by
  refine ctI plX2 rfl (Nat.le_of_ble_eq_true rfl) ?_
  intro p e s m below meth c A Q S hK hA hE hret H locs hP hD hS ls hl
  replace S : CallFix p m c cX2_hopeOn 8 s _ wsX2_hopeOn RX2 := S
  generalize ([.ref q_this, .int a1, .int a2] : List Value).toArray = args at S hret ⊢
  obtain ⟨hx, hb, hml, hown, hts⟩ := id S
  replace hl : lv_has ls 8 [(0, .ref q_this), (1, .int a1), (2, .int a2)] := hl
  unfold shX2_hopeOn at hsh
  have Jj_52 : ∀ (x3_j_52 : Int64) (x5_j_52 : Int64) (H : Heap) (locs : List Loc), va_P D vwCl (wdX2_hopeOn cI cJ cZ q_this q_priors q_chances q_wet q_barren q_pipes v_size w_priors w_chances w_wet w_barren) H → va_D A (wdX2_hopeOn cI cJ cZ q_this q_priors q_chances q_wet q_barren q_pipes v_size w_priors w_chances w_wet w_barren) → va_S A s.heap H locs → ∀ ls : Array Slot, lv_has ls 8 [(2, .int a2), (3, .long x3_j_52), (5, .long x5_j_52)] → shX2_hopeOn_j_52 a2 x3_j_52 x5_j_52 = some o → W p l e rmX2_hopeOn s m args below meth c H locs 0 0 Q (F0 m 52 ls []) := by
    intro x3_j_52 x5_j_52 H locs hP hD hS ls hl hsh
    unfold shX2_hopeOn_j_52 at hsh
    refine lv_lload hx hb dX2_hopeOn_52 (lv_at hl 2 rfl) ?_
    refine lv_bipush (v := (20 : Int32)) hx hb dX2_hopeOn_54 (by decide) ?_
    refine lv_iconst (v := (4 : Int32)) hx hb dX2_hopeOn_56 (by decide) ?_
    refine lv_iload_n hx hb dX2_hopeOn_57 rfl (lv_at hl 0 rfl) ?_
    refine lv_imul hx hb dX2_hopeOn_58 ?_
    refine lv_isub hx hb dX2_hopeOn_59 ?_
    refine lv_lshl hx hb dX2_hopeOn_60 rfl ?_
    refine lv_lload_n hx hb dX2_hopeOn_61 rfl (lv_at hl 1 rfl) ?_
    obtain ⟨_, hg, hsh⟩ := bd hsh
    refine lv_ldiv hx hb dX2_hopeOn_62 (gq_ne hg) ?_
    refine lv_l2i hx hb dX2_hopeOn_63 rfl ?_
    have ho := Option.some.inj hsh
    rw [← ho] at hret
    exact hret _ _ _ _ dX2_hopeOn_64 hP hD hS
  refine lv_aload_n hx hb dX2_hopeOn_0 rfl (lv_at hl 0 rfl) ?_
  refine lv_iload_n hx hb dX2_hopeOn_1 rfl (lv_at hl 1 rfl) ?_
  obtain ⟨o_2, he, hsh⟩ := bd hsh
  refine kVl (ci := 2) S hK hA (ctX2_allWeights l D cI cJ cZ q_this q_priors q_chances q_wet q_barren q_pipes v_size w_priors w_chances w_wet w_barren a1 o_2 he) noE_cl (cwV 1 hts gX2_hopeOn_X2_allWeights rfl rfl rfl hdX2_allWeights ⟨Nat.le_of_ble_eq_true rfl, Nat.le_of_ble_eq_true rfl⟩) rfl 0 rfl [0, 1, 2, 3, 4] [] [0, 1, 2, 3, 4] (ws' := (wdX2_hopeOn cI cJ cZ q_this q_priors q_chances q_wet q_barren q_pipes v_size w_priors w_chances w_wet w_barren)) ⟨rfl, rfl, rfl, rfl, rfl, rfl, rfl⟩ trivial rfl hl.1 rfl (Nat.le_of_ble_eq_true rfl) dX2_hopeOn_2 hP hD hS (fun H locs hP hD hS => ?_)
  refine lv_lstore_n (lv' := [(3, .long o_2), (0, .ref q_this), (1, .int a1), (2, .int a2)]) hx hb dX2_hopeOn_5 rfl hl (by decide) rfl (fun ls hl => ?_)
  refine lv_lload_n hx hb dX2_hopeOn_6 rfl (lv_at hl 0 rfl) ?_
  refine lv_lconst (v := (0 : Int64)) hx hb dX2_hopeOn_7 (by decide) ?_
  refine W.lcmp hx hb dX2_hopeOn_8 ?_
  refine lv_if_ne (tgt := 14) hx hb dX2_hopeOn_9 (by decide) (fun c1 => ?_) (fun c1 => ?_)
  · have c1 := fun h => c1 (lc_eq.mpr h)
    have hsh := ite_t hsh c1
    refine lv_lconst (v := (0 : Int64)) hx hb dX2_hopeOn_14 (by decide) ?_
    refine lv_lstore (lv' := [(5, .long (0 : Int64)), (3, .long o_2), (0, .ref q_this), (1, .int a1), (2, .int a2)]) hx hb dX2_hopeOn_15 hl (by decide) rfl (fun ls hl => ?_)
    refine lv_iconst (v := (0 : Int32)) hx hb dX2_hopeOn_17 (by decide) ?_
    refine lv_istore (lv' := [(7, .int (0 : Int32)), (5, .long (0 : Int64)), (3, .long o_2), (0, .ref q_this), (1, .int a1), (2, .int a2)]) hx hb dX2_hopeOn_18 hl (by decide) rfl (fun ls hl => ?_)
    obtain ⟨r_20, hl_20, hk_20⟩ := bd hsh
    obtain ⟨n_20, hn_20⟩ := lp_iff.mp hl_20
    have L_20 : ∀ (n : Nat) (x5_20 : Int64) (x7_20 : Int32) (H : Heap) (locs : List Loc), va_P D vwCl (wdX2_hopeOn cI cJ cZ q_this q_priors q_chances q_wet q_barren q_pipes v_size w_priors w_chances w_wet w_barren) H → va_D A (wdX2_hopeOn cI cJ cZ q_this q_priors q_chances q_wet q_barren q_pipes v_size w_priors w_chances w_wet w_barren) → va_S A s.heap H locs → ∀ ls : Array Slot, lv_has ls 8 [(0, .ref q_this), (1, .int a1), (2, .int a2), (3, .long o_2), (5, .long x5_20), (7, .int x7_20)] → it (fun s : Int64 × Int32 => shX2_hopeOn_L20 a1 a2 w_priors w_chances w_wet w_barren s.1 s.2) n (x5_20, x7_20) = some r_20 → W p l e rmX2_hopeOn s m args below meth c H locs 0 0 Q (F0 m 20 ls []) := by
      intro n
      induction n with
      | zero => exact fun _ _ _ _ _ _ _ _ _ hi => it_0 hi
      | succ n ih_20 =>
        intro x5_20 x7_20 H locs hP hD hS ls hl hi
        obtain ⟨b_20, hsh, hB1_20, hB2_20⟩ := it_b hi
        replace hsh : shX2_hopeOn_L20 a1 a2 w_priors w_chances w_wet w_barren x5_20 x7_20 = some b_20 := hsh
        unfold shX2_hopeOn_L20 at hsh
        refine lv_iload hx hb dX2_hopeOn_20 (lv_at hl 5 rfl) ?_
        refine lv_iconst (v := (3 : Int32)) hx hb dX2_hopeOn_22 (by decide) ?_
        refine lv_icmp_ge (tgt := 52) hx hb dX2_hopeOn_23 (by decide) (fun c1 => ?_) (fun c1 => ?_)
        · skip
          have hsh := ite_t hsh c1
          have he := hB2_20 _ hsh
          rw [← he] at hk_20
          exact Jj_52 o_2 x5_20 H locs hP hD hS ls (lv_sub hl [2, 3, 4] rfl) hk_20
        · skip
          have hsh := ite_f hsh c1
          refine lv_lload hx hb dX2_hopeOn_26 (lv_at hl 4 rfl) ?_
          refine lv_aload_n hx hb dX2_hopeOn_28 rfl (lv_at hl 0 rfl) ?_
          refine lv_iload_n hx hb dX2_hopeOn_29 rfl (lv_at hl 1 rfl) ?_
          refine lv_iload hx hb dX2_hopeOn_30 (lv_at hl 5 rfl) ?_
          obtain ⟨o_32, he, hsh⟩ := bd hsh
          refine kVl (ci := 2) S hK hA (ctX2_weight l D cI cJ cZ q_this q_priors q_chances q_wet q_barren q_pipes v_size w_priors w_chances w_wet w_barren a1 x7_20 o_32 he) noE_cl (cwV 2 hts gX2_hopeOn_X2_weight rfl rfl rfl hdX2_weight ⟨Nat.le_of_ble_eq_true rfl, Nat.le_of_ble_eq_true rfl⟩) rfl 0 rfl [0, 1, 2, 3, 4] [] [0, 1, 2, 3, 4] (ws' := (wdX2_hopeOn cI cJ cZ q_this q_priors q_chances q_wet q_barren q_pipes v_size w_priors w_chances w_wet w_barren)) ⟨rfl, rfl, rfl, rfl, rfl, rfl, rfl⟩ trivial rfl hl.1 rfl (Nat.le_of_ble_eq_true rfl) dX2_hopeOn_32 hP hD hS (fun H locs hP hD hS => ?_)
          refine lv_aload_n hx hb dX2_hopeOn_35 rfl (lv_at hl 0 rfl) ?_
          refine lv_iload hx hb dX2_hopeOn_36 (lv_at hl 5 rfl) ?_
          refine lv_iload_n hx hb dX2_hopeOn_38 rfl (lv_at hl 2 rfl) ?_
          obtain ⟨o_39, he, hsh⟩ := bd hsh
          refine kVl (ci := 2) S hK hA (ctX2_wetParts l D cI cJ cZ q_this q_priors q_chances q_wet q_barren q_pipes v_size w_chances x7_20 a2 o_39 he) noE_cl (cwV 2 hts gX2_hopeOn_X2_wetParts rfl rfl rfl hdX2_wetParts ⟨Nat.le_of_ble_eq_true rfl, Nat.le_of_ble_eq_true rfl⟩) rfl 0 rfl [0, 2] [1, 3, 4] [3, 0, 4, 1, 2] (ws' := (wdX2_hopeOn cI cJ cZ q_this q_priors q_chances q_wet q_barren q_pipes v_size w_priors w_chances w_wet w_barren)) ⟨rfl, rfl, rfl, rfl, rfl, rfl, rfl⟩ trivial rfl hl.1 rfl (Nat.le_of_ble_eq_true rfl) dX2_hopeOn_39 hP hD hS (fun H locs hP hD hS => ?_)
          refine lv_lmul hx hb dX2_hopeOn_42 ?_
          refine lv_ladd hx hb dX2_hopeOn_43 ?_
          refine lv_lstore (lv' := [(5, .long (x5_20 + (o_32 * o_39))), (0, .ref q_this), (1, .int a1), (2, .int a2), (3, .long o_2), (7, .int x7_20)]) hx hb dX2_hopeOn_44 hl (by decide) rfl (fun ls hl => ?_)
          refine lv_iinc (v := (x7_20 + (1 : Int32))) (lv' := [(7, .int (x7_20 + (1 : Int32))), (5, .long (x5_20 + (o_32 * o_39))), (0, .ref q_this), (1, .int a1), (2, .int a2), (3, .long o_2)]) hx hb dX2_hopeOn_46 hl (k := 5) rfl (congrArg (fun z : Int32 => x7_20 + z) (by decide)) (by decide) rfl (fun ls hl => ?_)
          refine lv_goto (tgt := 20) hx hb dX2_hopeOn_49 (by decide) ?_
          exact ih_20 (x5_20 + (o_32 * o_39)) (x7_20 + (1 : Int32)) H locs hP hD hS ls (lv_sub hl [2, 3, 4, 5, 1, 0] rfl) (hB1_20 _ hsh)
    exact L_20 n_20 (0 : Int64) (0 : Int32) H locs hP hD hS ls (lv_sub hl [3, 4, 5, 2, 1, 0] rfl) hn_20
  · have c1 := lc_eq.mp c1
    have hsh := ite_f hsh (fun h => h c1)
    refine lv_iconst (v := (0 : Int32)) hx hb dX2_hopeOn_12 (by decide) ?_
    have ho := Option.some.inj hsh
    rw [← ho] at hret
    exact hret _ _ _ _ dX2_hopeOn_13 hP hD hS
