/-! DryWells$Ways.set -/
noncomputable def shX5_set_j_10 (a1 : Int32) (a2 : Int32) (w_days : Nat → Int32) (s0_j_10 : Int32) : Option ((Nat → Int32)) :=
  ((gd ((a1 * (8 : Int32)) + a2) 64).bind fun _ => ((gd ((a2 * (8 : Int32)) + a1) 64).bind fun _ => some (upd (upd w_days (((a1 * (8 : Int32)) + a2)).toNatClampNeg s0_j_10) (((a2 * (8 : Int32)) + a1)).toNatClampNeg s0_j_10)))
noncomputable def shX5_set (a1 : Int32) (a2 : Int32) (a3 : Int32) (w_days : Nat → Int32) : Option ((Nat → Int32)) :=
  (if ¬ a3 = (-1 : Int32) then (shX5_set_j_10 a1 a2 w_days a3) else (shX5_set_j_10 a1 a2 w_days (0 : Int32)))
def wdX5_set (cI cJ cZ : ClassId) (q_this q_days : Nat) (w_days : Nat → Int32) : va_W := [(q_this, .inr (5, [.ref q_days])), (q_days, .inl (cI, 64, .inl w_days))]
abbrev rmX5_set : Room := { frames := 0, cells := 0, slots := 0, locals := 0 }
theorem inX5_set_X5 : ∀ w ∈ u_ws RX5 TX5 1, w ∈ wsX5_set := fun _ h => List.mem_cons_of_mem _ (List.mem_append_right _ h)
theorem lkX5_set_13 : Cond.fieldLink RX5 13 (TX5 0).1 (TX5 0).2.1 (TX5 0).2.2.1 ∈ wsX5_set := List.mem_of_getElem? (i := 1) rfl
theorem hdX5_set : yX5_set.cls = RX5 ∧ yX5_set.cls ≠ "java/lang/invoke/MethodHandle" ∧ yX5_set.cls ≠ "java/lang/invoke/VarHandle" ∧ (parseMethodDescriptor yX5_set.desc).map (fun d => d.parameters.length) = some 3 := by decide +kernel
set_option maxHeartbeats 4000000 in
set_option maxRecDepth 100000 in
theorem ctX5_set (l : Launch) (D : va_G) (cI cJ cZ : ClassId) (q_this q_days : Nat) (w_days : Nat → Int32) (a1 : Int32) (a2 : Int32) (a3 : Int32) (o : (Nat → Int32)) (hsh : shX5_set a1 a2 a3 w_days = some o) : CtV l yX5_set wsX5_set rmX5_set D (tys3 cI cJ cZ) noE (wdX5_set cI cJ cZ q_this q_days w_days) [.ref q_this, .int a1, .int a2, .int a3]  (wdX5_set cI cJ cZ q_this q_days o) := by
  refine ctV plX5 rfl (Nat.le_of_ble_eq_true rfl) ?_
  intro p e s m below meth c A Q S hK hA hE hret H locs hP hD hS ls hl
  replace S : CallFix p m c cX5_set 5 s _ wsX5_set RX5 := S
  generalize ([.ref q_this, .int a1, .int a2, .int a3] : List Value).toArray = args at S hret ⊢
  obtain ⟨hx, hb, hml, hown, hts⟩ := id S
  replace hl : lv_has ls 5 [(0, .ref q_this), (1, .int a1), (2, .int a2), (3, .int a3)] := hl
  unfold shX5_set at hsh
  have Jj_10 : ∀ (s0_j_10 : Int32) (H : Heap) (locs : List Loc), va_P D vwCl (wdX5_set cI cJ cZ q_this q_days w_days) H → va_D A (wdX5_set cI cJ cZ q_this q_days w_days) → va_S A s.heap H locs → ∀ ls : Array Slot, lv_has ls 5 [(0, .ref q_this), (1, .int a1), (2, .int a2)] → shX5_set_j_10 a1 a2 w_days s0_j_10 = some o → W p l e rmX5_set s m args below meth c H locs 0 0 Q (F0 m 10 ls [.int s0_j_10]) := by
    intro s0_j_10 H locs hP hD hS ls hl hsh
    unfold shX5_set_j_10 at hsh
    refine lv_istore (lv' := [(4, .int s0_j_10), (0, .ref q_this), (1, .int a1), (2, .int a2)]) hx hb dX5_set_10 hl (by decide) rfl (fun ls hl => ?_)
    refine lv_aload_n hx hb dX5_set_12 rfl (lv_at hl 1 rfl) ?_
    refine kget (ci := 5) S hK hP rfl inX5_set_X5 0 rfl 0 (by decide) lkX5_set_13 rfl dX5_set_13 ?_
    refine lv_iload_n hx hb dX5_set_16 rfl (lv_at hl 2 rfl) ?_
    refine lv_bipush (v := (8 : Int32)) hx hb dX5_set_17 (by decide) ?_
    refine lv_imul hx hb dX5_set_19 ?_
    refine lv_iload_n hx hb dX5_set_20 rfl (lv_at hl 3 rfl) ?_
    refine lv_iadd hx hb dX5_set_21 ?_
    refine lv_iload hx hb dX5_set_22 (lv_at hl 0 rfl) ?_
    obtain ⟨_, hg, hsh⟩ := bd hsh
    refine kias S hK hP hD hS 1 0 rfl rfl (gd_in hg) (ws' := (wdX5_set cI cJ cZ q_this q_days (upd w_days (((a1 * (8 : Int32)) + a2)).toNatClampNeg s0_j_10))) rfl dX5_set_24 (fun H locs hP hD hS => ?_)
    refine lv_aload_n hx hb dX5_set_25 rfl (lv_at hl 1 rfl) ?_
    refine kget (ci := 5) S hK hP rfl inX5_set_X5 0 rfl 0 (by decide) lkX5_set_13 rfl dX5_set_26 ?_
    refine lv_iload_n hx hb dX5_set_29 rfl (lv_at hl 3 rfl) ?_
    refine lv_bipush (v := (8 : Int32)) hx hb dX5_set_30 (by decide) ?_
    refine lv_imul hx hb dX5_set_32 ?_
    refine lv_iload_n hx hb dX5_set_33 rfl (lv_at hl 2 rfl) ?_
    refine lv_iadd hx hb dX5_set_34 ?_
    refine lv_iload hx hb dX5_set_35 (lv_at hl 0 rfl) ?_
    obtain ⟨_, hg, hsh⟩ := bd hsh
    refine kias S hK hP hD hS 1 0 rfl rfl (gd_in hg) (ws' := (wdX5_set cI cJ cZ q_this q_days (upd (upd w_days (((a1 * (8 : Int32)) + a2)).toNatClampNeg s0_j_10) (((a2 * (8 : Int32)) + a1)).toNatClampNeg s0_j_10))) rfl dX5_set_37 (fun H locs hP hD hS => ?_)
    have ho := Option.some.inj hsh
    rw [← ho] at hret
    exact hret _ _ _ _ dX5_set_38 hP hD hS
  refine lv_iload_n hx hb dX5_set_0 rfl (lv_at hl 3 rfl) ?_
  refine lv_iconst (v := (-1 : Int32)) hx hb dX5_set_1 (by decide) ?_
  refine lv_icmp_ne (tgt := 9) hx hb dX5_set_2 (by decide) (fun c1 => ?_) (fun c1 => ?_)
  · skip
    have hsh := ite_t hsh c1
    refine lv_iload_n hx hb dX5_set_9 rfl (lv_at hl 3 rfl) ?_
    exact Jj_10 a3 H locs hP hD hS ls (lv_sub hl [0, 1, 2] rfl) hsh
  · skip
    have hsh := ite_f hsh (fun h => h c1)
    refine lv_iconst (v := (0 : Int32)) hx hb dX5_set_5 (by decide) ?_
    refine lv_goto (tgt := 10) hx hb dX5_set_6 (by decide) ?_
    exact Jj_10 (0 : Int32) H locs hP hD hS ls (lv_sub hl [0, 1, 2] rfl) hsh

/-! DryWells$Ways.joins -/
noncomputable def shX5_joins (a1 : Int32) (a2 : Int32) (w_days : Nat → Int32) : Option (Int32) :=
  ((gd ((a1 * (8 : Int32)) + a2) 64).bind fun _ => (if (w_days (((a1 * (8 : Int32)) + a2)).toNatClampNeg) ≤ 0 then some (0 : Int32) else some (1 : Int32)))
def wdX5_joins (cI cJ cZ : ClassId) (q_this q_days : Nat) (w_days : Nat → Int32) : va_W := [(q_this, .inr (5, [.ref q_days])), (q_days, .inl (cI, 64, .inl w_days))]
abbrev rmX5_joins : Room := { frames := 0, cells := 0, slots := 0, locals := 0 }
theorem inX5_joins_X5 : ∀ w ∈ u_ws RX5 TX5 1, w ∈ wsX5_joins := fun _ h => List.mem_cons_of_mem _ (List.mem_append_right _ h)
theorem lkX5_joins_13 : Cond.fieldLink RX5 13 (TX5 0).1 (TX5 0).2.1 (TX5 0).2.2.1 ∈ wsX5_joins := List.mem_of_getElem? (i := 1) rfl
theorem hdX5_joins : yX5_joins.cls = RX5 ∧ yX5_joins.cls ≠ "java/lang/invoke/MethodHandle" ∧ yX5_joins.cls ≠ "java/lang/invoke/VarHandle" ∧ (parseMethodDescriptor yX5_joins.desc).map (fun d => d.parameters.length) = some 2 := by decide +kernel
set_option maxHeartbeats 4000000 in
set_option maxRecDepth 100000 in
theorem ctX5_joins (l : Launch) (D : va_G) (cI cJ cZ : ClassId) (q_this q_days : Nat) (w_days : Nat → Int32) (a1 : Int32) (a2 : Int32) (o : Int32) (hsh : shX5_joins a1 a2 w_days = some o) : CtI l yX5_joins wsX5_joins rmX5_joins D (tys3 cI cJ cZ) noE (wdX5_joins cI cJ cZ q_this q_days w_days) [.ref q_this, .int a1, .int a2] o (wdX5_joins cI cJ cZ q_this q_days w_days) := by
  refine ctZ plX5 rfl (Nat.le_of_ble_eq_true rfl) ?_
  intro p e s m below meth c A Q S hK hA hE hret H locs hP hD hS ls hl
  replace S : CallFix p m c cX5_joins 3 s _ wsX5_joins RX5 := S
  generalize ([.ref q_this, .int a1, .int a2] : List Value).toArray = args at S hret ⊢
  obtain ⟨hx, hb, hml, hown, hts⟩ := id S
  replace hl : lv_has ls 3 [(0, .ref q_this), (1, .int a1), (2, .int a2)] := hl
  unfold shX5_joins at hsh
  refine lv_aload_n hx hb dX5_joins_0 rfl (lv_at hl 0 rfl) ?_
  refine kget (ci := 5) S hK hP rfl inX5_joins_X5 0 rfl 0 (by decide) lkX5_joins_13 rfl dX5_joins_1 ?_
  refine lv_iload_n hx hb dX5_joins_4 rfl (lv_at hl 1 rfl) ?_
  refine lv_bipush (v := (8 : Int32)) hx hb dX5_joins_5 (by decide) ?_
  refine lv_imul hx hb dX5_joins_7 ?_
  refine lv_iload_n hx hb dX5_joins_8 rfl (lv_at hl 2 rfl) ?_
  refine lv_iadd hx hb dX5_joins_9 ?_
  obtain ⟨_, hg, hsh⟩ := bd hsh
  refine kial S hK hP 1 0 rfl rfl (gd_in hg) dX5_joins_10 ?_
  refine lv_if_le (tgt := 18) hx hb dX5_joins_11 (by decide) (fun c1 => ?_) (fun c1 => ?_)
  · skip
    have hsh := ite_t hsh c1
    refine lv_iconst (v := (0 : Int32)) hx hb dX5_joins_18 (by decide) ?_
    have ho := Option.some.inj hsh
    rw [← ho] at hret
    exact hret _ _ _ _ nar0 dX5_joins_19 hP hD hS
  · skip
    have hsh := ite_f hsh c1
    refine lv_iconst (v := (1 : Int32)) hx hb dX5_joins_14 (by decide) ?_
    refine lv_goto (tgt := 19) hx hb dX5_joins_15 (by decide) ?_
    have ho := Option.some.inj hsh
    rw [← ho] at hret
    exact hret _ _ _ _ nar1 dX5_joins_19 hP hD hS

/-! DryWells$Ways.days -/
noncomputable def shX5_days (a1 : Int32) (a2 : Int32) (w_days : Nat → Int32) : Option (Int32) :=
  ((gd ((a1 * (8 : Int32)) + a2) 64).bind fun _ => some (w_days (((a1 * (8 : Int32)) + a2)).toNatClampNeg))
def wdX5_days (cI cJ cZ : ClassId) (q_this q_days : Nat) (w_days : Nat → Int32) : va_W := [(q_this, .inr (5, [.ref q_days])), (q_days, .inl (cI, 64, .inl w_days))]
abbrev rmX5_days : Room := { frames := 0, cells := 0, slots := 0, locals := 0 }
theorem inX5_days_X5 : ∀ w ∈ u_ws RX5 TX5 1, w ∈ wsX5_days := fun _ h => List.mem_cons_of_mem _ (List.mem_append_right _ h)
theorem lkX5_days_13 : Cond.fieldLink RX5 13 (TX5 0).1 (TX5 0).2.1 (TX5 0).2.2.1 ∈ wsX5_days := List.mem_of_getElem? (i := 1) rfl
theorem hdX5_days : yX5_days.cls = RX5 ∧ yX5_days.cls ≠ "java/lang/invoke/MethodHandle" ∧ yX5_days.cls ≠ "java/lang/invoke/VarHandle" ∧ (parseMethodDescriptor yX5_days.desc).map (fun d => d.parameters.length) = some 2 := by decide +kernel
set_option maxHeartbeats 4000000 in
set_option maxRecDepth 100000 in
theorem ctX5_days (l : Launch) (D : va_G) (cI cJ cZ : ClassId) (q_this q_days : Nat) (w_days : Nat → Int32) (a1 : Int32) (a2 : Int32) (o : Int32) (hsh : shX5_days a1 a2 w_days = some o) : CtI l yX5_days wsX5_days rmX5_days D (tys3 cI cJ cZ) noE (wdX5_days cI cJ cZ q_this q_days w_days) [.ref q_this, .int a1, .int a2] o (wdX5_days cI cJ cZ q_this q_days w_days) := by
  refine ctI plX5 rfl (Nat.le_of_ble_eq_true rfl) ?_
  intro p e s m below meth c A Q S hK hA hE hret H locs hP hD hS ls hl
  replace S : CallFix p m c cX5_days 3 s _ wsX5_days RX5 := S
  generalize ([.ref q_this, .int a1, .int a2] : List Value).toArray = args at S hret ⊢
  obtain ⟨hx, hb, hml, hown, hts⟩ := id S
  replace hl : lv_has ls 3 [(0, .ref q_this), (1, .int a1), (2, .int a2)] := hl
  unfold shX5_days at hsh
  refine lv_aload_n hx hb dX5_days_0 rfl (lv_at hl 0 rfl) ?_
  refine kget (ci := 5) S hK hP rfl inX5_days_X5 0 rfl 0 (by decide) lkX5_days_13 rfl dX5_days_1 ?_
  refine lv_iload_n hx hb dX5_days_4 rfl (lv_at hl 1 rfl) ?_
  refine lv_bipush (v := (8 : Int32)) hx hb dX5_days_5 (by decide) ?_
  refine lv_imul hx hb dX5_days_7 ?_
  refine lv_iload_n hx hb dX5_days_8 rfl (lv_at hl 2 rfl) ?_
  refine lv_iadd hx hb dX5_days_9 ?_
  obtain ⟨_, hg, hsh⟩ := bd hsh
  refine kial S hK hP 1 0 rfl rfl (gd_in hg) dX5_days_10 ?_
  have ho := Option.some.inj hsh
  rw [← ho] at hret
  exact hret _ _ _ _ dX5_days_11 hP hD hS
