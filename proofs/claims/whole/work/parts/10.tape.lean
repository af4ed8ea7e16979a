/-! DryWells$Tape.hasRoom -/
noncomputable def shX3_hasRoom (v_length : Int32) : Option (Int32) :=
  (if (200 : Int32) < (v_length + (20 : Int32)) then some (0 : Int32) else some (1 : Int32))
def wdX3_hasRoom (cI cJ cZ : ClassId) (q_this q_bytes : Nat) (v_length : Int32) : va_W := [(q_this, .inr (3, [.ref q_bytes, .int v_length]))]
abbrev rmX3_hasRoom : Room := { frames := 0, cells := 0, slots := 0, locals := 0 }
theorem inX3_hasRoom_X3 : ∀ w ∈ u_ws RX3 TX3 2, w ∈ wsX3_hasRoom := fun _ h => List.mem_cons_of_mem _ (List.mem_append_right _ h)
theorem lkX3_hasRoom_15 : Cond.fieldLink RX3 15 (TX3 1).1 (TX3 1).2.1 (TX3 1).2.2.1 ∈ wsX3_hasRoom := List.mem_of_getElem? (i := 1) rfl
theorem hdX3_hasRoom : yX3_hasRoom.cls = RX3 ∧ yX3_hasRoom.cls ≠ "java/lang/invoke/MethodHandle" ∧ yX3_hasRoom.cls ≠ "java/lang/invoke/VarHandle" ∧ (parseMethodDescriptor yX3_hasRoom.desc).map (fun d => d.parameters.length) = some 0 := by decide +kernel
set_option maxHeartbeats 4000000 in
set_option maxRecDepth 100000 in
theorem ctX3_hasRoom (l : Launch) (D : va_G) (cI cJ cZ : ClassId) (q_this q_bytes : Nat) (v_length : Int32)  (o : Int32) (hsh : shX3_hasRoom v_length = some o) : CtI l yX3_hasRoom wsX3_hasRoom rmX3_hasRoom D (tys3 cI cJ cZ) noE (wdX3_hasRoom cI cJ cZ q_this q_bytes v_length) [.ref q_this] o (wdX3_hasRoom cI cJ cZ q_this q_bytes v_length) := by
  refine ctZ plX3 rfl (Nat.le_of_ble_eq_true rfl) ?_
  intro p e s m below meth c A Q S hK hA hE hret H locs hP hD hS ls hl
  replace S : CallFix p m c cX3_hasRoom 1 s _ wsX3_hasRoom RX3 := S
  generalize ([.ref q_this] : List Value).toArray = args at S hret ⊢
  obtain ⟨hx, hb, hml, hown, hts⟩ := id S
  replace hl : lv_has ls 1 [(0, .ref q_this)] := hl
  unfold shX3_hasRoom at hsh
  refine lv_aload_n hx hb dX3_hasRoom_0 rfl (lv_at hl 0 rfl) ?_
  refine kget (ci := 3) S hK hP rfl inX3_hasRoom_X3 0 rfl 1 (by decide) lkX3_hasRoom_15 rfl dX3_hasRoom_1 ?_
  refine lv_bipush (v := (20 : Int32)) hx hb dX3_hasRoom_4 (by decide) ?_
  refine lv_iadd hx hb dX3_hasRoom_6 ?_
  refine lv_sipush (v := (200 : Int32)) hx hb dX3_hasRoom_7 (by decide) ?_
  refine lv_icmp_gt (tgt := 17) hx hb dX3_hasRoom_10 (by decide) (fun c1 => ?_) (fun c1 => ?_)
  · skip
    have hsh := ite_t hsh c1
    refine lv_iconst (v := (0 : Int32)) hx hb dX3_hasRoom_17 (by decide) ?_
    have ho := Option.some.inj hsh
    rw [← ho] at hret
    exact hret _ _ _ _ nar0 dX3_hasRoom_18 hP hD hS
  · skip
    have hsh := ite_f hsh c1
    refine lv_iconst (v := (1 : Int32)) hx hb dX3_hasRoom_13 (by decide) ?_
    refine lv_goto (tgt := 18) hx hb dX3_hasRoom_14 (by decide) ?_
    have ho := Option.some.inj hsh
    rw [← ho] at hret
    exact hret _ _ _ _ nar1 dX3_hasRoom_18 hP hD hS

/-! DryWells$Tape.append -/
noncomputable def shX3_append_j_49 (v_length_j_49 : Int32) (w_bytes_j_49 : Nat → Int32) : Option (Int32 × (Nat → Int32)) :=
  some (v_length_j_49, w_bytes_j_49)
noncomputable def shX3_append_L3 (a1 : Int32) (x2_3 : Int32) (v_length_3 : Int32) (w_bytes_3 : Nat → Int32) : Option ((Int32 × Int32 × (Nat → Int32)) ⊕ ((Int32 × (Nat → Int32)))) :=
  (if x2_3 < 0 then some (Sum.inr (v_length_3, w_bytes_3)) else (if (200 : Int32) ≤ v_length_3 then some (Sum.inr (v_length_3, w_bytes_3)) else ((gd v_length_3 200).bind fun _ => some (Sum.inl ((x2_3 + (-8 : Int32)), (v_length_3 + (1 : Int32)), (upd w_bytes_3 (v_length_3).toNatClampNeg (((a1).toUInt32 >>> ((x2_3).toUInt32 &&& Int32.toUInt32 31)).toInt32 &&& (255 : Int32))))))))
noncomputable def shX3_append (a1 : Int32) (v_length : Int32) (w_bytes : Nat → Int32) : Option (Int32 × (Nat → Int32)) :=
  ((lp (fun s : Int32 × Int32 × (Nat → Int32) => shX3_append_L3 a1 s.1 s.2.1 s.2.2) ((24 : Int32), v_length, w_bytes)).bind (fun p : Int32 × (Nat → Int32) => shX3_append_j_49 p.1 p.2))
def wdX3_append (cI cJ cZ : ClassId) (q_this q_bytes : Nat) (v_length : Int32) (w_bytes : Nat → Int32) : va_W := [(q_this, .inr (3, [.ref q_bytes, .int v_length])), (q_bytes, .inl (cI, 200, .inl w_bytes))]
abbrev rmX3_append : Room := { frames := 0, cells := 0, slots := 0, locals := 0 }
theorem inX3_append_X3 : ∀ w ∈ u_ws RX3 TX3 2, w ∈ wsX3_append := fun _ h => List.mem_cons_of_mem _ (List.mem_append_right _ h)
theorem lkX3_append_15 : Cond.fieldLink RX3 15 (TX3 1).1 (TX3 1).2.1 (TX3 1).2.2.1 ∈ wsX3_append := List.mem_of_getElem? (i := 1) rfl
theorem lkX3_append_11 : Cond.fieldLink RX3 11 (TX3 0).1 (TX3 0).2.1 (TX3 0).2.2.1 ∈ wsX3_append := List.mem_of_getElem? (i := 2) rfl
theorem hdX3_append : yX3_append.cls = RX3 ∧ yX3_append.cls ≠ "java/lang/invoke/MethodHandle" ∧ yX3_append.cls ≠ "java/lang/invoke/VarHandle" ∧ (parseMethodDescriptor yX3_append.desc).map (fun d => d.parameters.length) = some 1 := by decide +kernel
set_option maxHeartbeats 4000000 in
set_option maxRecDepth 100000 in
theorem ctX3_append (l : Launch) (D : va_G) (cI cJ cZ : ClassId) (q_this q_bytes : Nat) (v_length : Int32) (w_bytes : Nat → Int32) (a1 : Int32) (o : Int32 × (Nat → Int32)) (hsh : shX3_append a1 v_length w_bytes = some o) : CtV l yX3_append wsX3_append rmX3_append D (tys3 cI cJ cZ) noE (wdX3_append cI cJ cZ q_this q_bytes v_length w_bytes) [.ref q_this, .int a1]  (wdX3_append cI cJ cZ q_this q_bytes o.1 o.2) := by
  refine ctV plX3 rfl (Nat.le_of_ble_eq_true rfl) ?_
  intro p e s m below meth c A Q S hK hA hE hret H locs hP hD hS ls hl
  replace S : CallFix p m c cX3_append 3 s _ wsX3_append RX3 := S
  generalize ([.ref q_this, .int a1] : List Value).toArray = args at S hret ⊢
  obtain ⟨hx, hb, hml, hown, hts⟩ := id S
  replace hl : lv_has ls 3 [(0, .ref q_this), (1, .int a1)] := hl
  unfold shX3_append at hsh
  have Jj_49 : ∀ (v_length_j_49 : Int32) (w_bytes_j_49 : Nat → Int32) (H : Heap) (locs : List Loc), va_P D vwCl (wdX3_append cI cJ cZ q_this q_bytes v_length_j_49 w_bytes_j_49) H → va_D A (wdX3_append cI cJ cZ q_this q_bytes v_length_j_49 w_bytes_j_49) → va_S A s.heap H locs → ∀ ls : Array Slot, lv_has ls 3 [] → shX3_append_j_49 v_length_j_49 w_bytes_j_49 = some o → W p l e rmX3_append s m args below meth c H locs 0 0 Q (F0 m 49 ls []) := by
    intro v_length_j_49 w_bytes_j_49 H locs hP hD hS ls hl hsh
    unfold shX3_append_j_49 at hsh
    have ho := Option.some.inj hsh
    rw [← ho] at hret
    exact hret _ _ _ _ dX3_append_49 hP hD hS
  refine lv_bipush (v := (24 : Int32)) hx hb dX3_append_0 (by decide) ?_
  refine lv_istore_n (lv' := [(2, .int (24 : Int32)), (0, .ref q_this), (1, .int a1)]) hx hb dX3_append_2 rfl hl (by decide) rfl (fun ls hl => ?_)
  obtain ⟨r_3, hl_3, hk_3⟩ := bd hsh
  obtain ⟨n_3, hn_3⟩ := lp_iff.mp hl_3
  have L_3 : ∀ (n : Nat) (x2_3 : Int32) (v_length_3 : Int32) (w_bytes_3 : Nat → Int32) (H : Heap) (locs : List Loc), va_P D vwCl (wdX3_append cI cJ cZ q_this q_bytes v_length_3 w_bytes_3) H → va_D A (wdX3_append cI cJ cZ q_this q_bytes v_length_3 w_bytes_3) → va_S A s.heap H locs → ∀ ls : Array Slot, lv_has ls 3 [(0, .ref q_this), (1, .int a1), (2, .int x2_3)] → it (fun s : Int32 × Int32 × (Nat → Int32) => shX3_append_L3 a1 s.1 s.2.1 s.2.2) n (x2_3, v_length_3, w_bytes_3) = some r_3 → W p l e rmX3_append s m args below meth c H locs 0 0 Q (F0 m 3 ls []) := by
    intro n
    induction n with
    | zero => exact fun _ _ _ _ _ _ _ _ _ _ hi => it_0 hi
    | succ n ih_3 =>
      intro x2_3 v_length_3 w_bytes_3 H locs hP hD hS ls hl hi
      obtain ⟨b_3, hsh, hB1_3, hB2_3⟩ := it_b hi
      replace hsh : shX3_append_L3 a1 x2_3 v_length_3 w_bytes_3 = some b_3 := hsh
      unfold shX3_append_L3 at hsh
      refine lv_iload_n hx hb dX3_append_3 rfl (lv_at hl 2 rfl) ?_
      refine lv_if_lt (tgt := 49) hx hb dX3_append_4 (by decide) (fun c1 => ?_) (fun c1 => ?_)
      · skip
        have hsh := ite_t hsh c1
        have he := hB2_3 _ hsh
        rw [← he] at hk_3
        exact Jj_49 v_length_3 w_bytes_3 H locs hP hD hS ls (lv_sub hl [] rfl) hk_3
      · skip
        have hsh := ite_f hsh c1
        refine lv_aload_n hx hb dX3_append_7 rfl (lv_at hl 0 rfl) ?_
        refine kget (ci := 3) S hK hP rfl inX3_append_X3 0 rfl 1 (by decide) lkX3_append_15 rfl dX3_append_8 ?_
        refine lv_sipush (v := (200 : Int32)) hx hb dX3_append_11 (by decide) ?_
        refine lv_icmp_ge (tgt := 49) hx hb dX3_append_14 (by decide) (fun c1 => ?_) (fun c1 => ?_)
        · skip
          have hsh := ite_t hsh c1
          have he := hB2_3 _ hsh
          rw [← he] at hk_3
          exact Jj_49 v_length_3 w_bytes_3 H locs hP hD hS ls (lv_sub hl [] rfl) hk_3
        · skip
          have hsh := ite_f hsh c1
          refine lv_aload_n hx hb dX3_append_17 rfl (lv_at hl 0 rfl) ?_
          refine kget (ci := 3) S hK hP rfl inX3_append_X3 0 rfl 0 (by decide) lkX3_append_11 rfl dX3_append_18 ?_
          refine lv_aload_n hx hb dX3_append_21 rfl (lv_at hl 0 rfl) ?_
          refine kget (ci := 3) S hK hP rfl inX3_append_X3 0 rfl 1 (by decide) lkX3_append_15 rfl dX3_append_22 ?_
          refine lv_iload_n hx hb dX3_append_25 rfl (lv_at hl 1 rfl) ?_
          refine lv_iload_n hx hb dX3_append_26 rfl (lv_at hl 2 rfl) ?_
          refine lv_iushr hx hb dX3_append_27 rfl ?_
          refine lv_sipush (v := (255 : Int32)) hx hb dX3_append_28 (by decide) ?_
          refine lv_iand hx hb dX3_append_31 ?_
          obtain ⟨_, hg, hsh⟩ := bd hsh
          refine kias S hK hP hD hS 1 0 rfl rfl (gd_in hg) (ws' := (wdX3_append cI cJ cZ q_this q_bytes v_length_3 (upd w_bytes_3 (v_length_3).toNatClampNeg (((a1).toUInt32 >>> ((x2_3).toUInt32 &&& Int32.toUInt32 31)).toInt32 &&& (255 : Int32))))) rfl dX3_append_32 (fun H locs hP hD hS => ?_)
          refine lv_aload_n hx hb dX3_append_33 rfl (lv_at hl 0 rfl) ?_
          refine lv_dup hx hb dX3_append_34 rfl ?_
          refine kget (ci := 3) S hK hP rfl inX3_append_X3 0 rfl 1 (by decide) lkX3_append_15 rfl dX3_append_35 ?_
          refine lv_iconst (v := (1 : Int32)) hx hb dX3_append_38 (by decide) ?_
          refine lv_iadd hx hb dX3_append_39 ?_
          refine kput (ci := 3) S hK hP hD hS rfl inX3_append_X3 tyX3_ok nmX3 0 rfl 1 (by decide) lkX3_append_15 rfl rfl rfl (Nat.le_of_ble_eq_true rfl) (ws' := (wdX3_append cI cJ cZ q_this q_bytes (v_length_3 + (1 : Int32)) (upd w_bytes_3 (v_length_3).toNatClampNeg (((a1).toUInt32 >>> ((x2_3).toUInt32 &&& Int32.toUInt32 31)).toInt32 &&& (255 : Int32))))) rfl dX3_append_40 (fun H locs hP hD hS => ?_)
          refine lv_iinc (v := (x2_3 + (-8 : Int32))) (lv' := [(2, .int (x2_3 + (-8 : Int32))), (0, .ref q_this), (1, .int a1)]) hx hb dX3_append_43 hl (k := 2) rfl (congrArg (fun z : Int32 => x2_3 + z) (by decide)) (by decide) rfl (fun ls hl => ?_)
          refine lv_goto (tgt := 3) hx hb dX3_append_46 (by decide) ?_
          exact ih_3 (x2_3 + (-8 : Int32)) (v_length_3 + (1 : Int32)) (upd w_bytes_3 (v_length_3).toNatClampNeg (((a1).toUInt32 >>> ((x2_3).toUInt32 &&& Int32.toUInt32 31)).toInt32 &&& (255 : Int32))) H locs hP hD hS ls (lv_sub hl [1, 2, 0] rfl) (hB1_3 _ hsh)
  exact L_3 n_3 (24 : Int32) v_length w_bytes H locs hP hD hS ls (lv_sub hl [1, 2, 0] rfl) hn_3

/-! DryWells$Tape.length -/
noncomputable def shX3_length (v_length : Int32) : Option (Int32) :=
  some v_length
def wdX3_length (cI cJ cZ : ClassId) (q_this q_bytes : Nat) (v_length : Int32) : va_W := [(q_this, .inr (3, [.ref q_bytes, .int v_length]))]
abbrev rmX3_length : Room := { frames := 0, cells := 0, slots := 0, locals := 0 }
theorem inX3_length_X3 : ∀ w ∈ u_ws RX3 TX3 2, w ∈ wsX3_length := fun _ h => List.mem_cons_of_mem _ (List.mem_append_right _ h)
theorem lkX3_length_15 : Cond.fieldLink RX3 15 (TX3 1).1 (TX3 1).2.1 (TX3 1).2.2.1 ∈ wsX3_length := List.mem_of_getElem? (i := 1) rfl
theorem hdX3_length : yX3_length.cls = RX3 ∧ yX3_length.cls ≠ "java/lang/invoke/MethodHandle" ∧ yX3_length.cls ≠ "java/lang/invoke/VarHandle" ∧ (parseMethodDescriptor yX3_length.desc).map (fun d => d.parameters.length) = some 0 := by decide +kernel
set_option maxHeartbeats 4000000 in
set_option maxRecDepth 100000 in
theorem ctX3_length (l : Launch) (D : va_G) (cI cJ cZ : ClassId) (q_this q_bytes : Nat) (v_length : Int32)  (o : Int32) (hsh : shX3_length v_length = some o) : CtI l yX3_length wsX3_length rmX3_length D (tys3 cI cJ cZ) noE (wdX3_length cI cJ cZ q_this q_bytes v_length) [.ref q_this] o (wdX3_length cI cJ cZ q_this q_bytes v_length) := by
  refine ctI plX3 rfl (Nat.le_of_ble_eq_true rfl) ?_
  intro p e s m below meth c A Q S hK hA hE hret H locs hP hD hS ls hl
  replace S : CallFix p m c cX3_length 1 s _ wsX3_length RX3 := S
  generalize ([.ref q_this] : List Value).toArray = args at S hret ⊢
  obtain ⟨hx, hb, hml, hown, hts⟩ := id S
  replace hl : lv_has ls 1 [(0, .ref q_this)] := hl
  unfold shX3_length at hsh
  refine lv_aload_n hx hb dX3_length_0 rfl (lv_at hl 0 rfl) ?_
  refine kget (ci := 3) S hK hP rfl inX3_length_X3 0 rfl 1 (by decide) lkX3_length_15 rfl dX3_length_1 ?_
  have ho := Option.some.inj hsh
  rw [← ho] at hret
  exact hret _ _ _ _ dX3_length_4 hP hD hS

/-! DryWells$Tape.clear -/
noncomputable def shX3_clear (v_length : Int32) : Option (Int32) :=
  some (0 : Int32)
def wdX3_clear (cI cJ cZ : ClassId) (q_this q_bytes : Nat) (v_length : Int32) : va_W := [(q_this, .inr (3, [.ref q_bytes, .int v_length]))]
abbrev rmX3_clear : Room := { frames := 0, cells := 0, slots := 0, locals := 0 }
theorem inX3_clear_X3 : ∀ w ∈ u_ws RX3 TX3 2, w ∈ wsX3_clear := fun _ h => List.mem_cons_of_mem _ (List.mem_append_right _ h)
theorem lkX3_clear_15 : Cond.fieldLink RX3 15 (TX3 1).1 (TX3 1).2.1 (TX3 1).2.2.1 ∈ wsX3_clear := List.mem_of_getElem? (i := 1) rfl
theorem hdX3_clear : yX3_clear.cls = RX3 ∧ yX3_clear.cls ≠ "java/lang/invoke/MethodHandle" ∧ yX3_clear.cls ≠ "java/lang/invoke/VarHandle" ∧ (parseMethodDescriptor yX3_clear.desc).map (fun d => d.parameters.length) = some 0 := by decide +kernel
set_option maxHeartbeats 4000000 in
set_option maxRecDepth 100000 in
theorem ctX3_clear (l : Launch) (D : va_G) (cI cJ cZ : ClassId) (q_this q_bytes : Nat) (v_length : Int32)  (o : Int32) (hsh : shX3_clear v_length = some o) : CtV l yX3_clear wsX3_clear rmX3_clear D (tys3 cI cJ cZ) noE (wdX3_clear cI cJ cZ q_this q_bytes v_length) [.ref q_this]  (wdX3_clear cI cJ cZ q_this q_bytes o) := by
  refine ctV plX3 rfl (Nat.le_of_ble_eq_true rfl) ?_
  intro p e s m below meth c A Q S hK hA hE hret H locs hP hD hS ls hl
  replace S : CallFix p m c cX3_clear 1 s _ wsX3_clear RX3 := S
  generalize ([.ref q_this] : List Value).toArray = args at S hret ⊢
  obtain ⟨hx, hb, hml, hown, hts⟩ := id S
  replace hl : lv_has ls 1 [(0, .ref q_this)] := hl
  unfold shX3_clear at hsh
  refine lv_aload_n hx hb dX3_clear_0 rfl (lv_at hl 0 rfl) ?_
  refine lv_iconst (v := (0 : Int32)) hx hb dX3_clear_1 (by decide) ?_
  refine kput (ci := 3) S hK hP hD hS rfl inX3_clear_X3 tyX3_ok nmX3 0 rfl 1 (by decide) lkX3_clear_15 rfl rfl rfl (Nat.le_of_ble_eq_true rfl) (ws' := (wdX3_clear cI cJ cZ q_this q_bytes (0 : Int32))) rfl dX3_clear_2 (fun H locs hP hD hS => ?_)
  have ho := Option.some.inj hsh
  rw [← ho] at hret
  exact hret _ _ _ _ dX3_clear_5 hP hD hS

/-! DryWells$Tape.at -/
noncomputable def shX3_at (a1 : Int32) (v_length : Int32) (w_bytes : Nat → Int32) : Option (Int32) :=
  (if a1 < 0 then some (-1 : Int32) else (if v_length ≤ a1 then some (-1 : Int32) else ((gd a1 200).bind fun _ => some (w_bytes (a1).toNatClampNeg))))
def wdX3_at (cI cJ cZ : ClassId) (q_this q_bytes : Nat) (v_length : Int32) (w_bytes : Nat → Int32) : va_W := [(q_this, .inr (3, [.ref q_bytes, .int v_length])), (q_bytes, .inl (cI, 200, .inl w_bytes))]
abbrev rmX3_at : Room := { frames := 0, cells := 0, slots := 0, locals := 0 }
theorem inX3_at_X3 : ∀ w ∈ u_ws RX3 TX3 2, w ∈ wsX3_at := fun _ h => List.mem_cons_of_mem _ (List.mem_append_right _ h)
theorem lkX3_at_15 : Cond.fieldLink RX3 15 (TX3 1).1 (TX3 1).2.1 (TX3 1).2.2.1 ∈ wsX3_at := List.mem_of_getElem? (i := 1) rfl
theorem lkX3_at_11 : Cond.fieldLink RX3 11 (TX3 0).1 (TX3 0).2.1 (TX3 0).2.2.1 ∈ wsX3_at := List.mem_of_getElem? (i := 2) rfl
theorem hdX3_at : yX3_at.cls = RX3 ∧ yX3_at.cls ≠ "java/lang/invoke/MethodHandle" ∧ yX3_at.cls ≠ "java/lang/invoke/VarHandle" ∧ (parseMethodDescriptor yX3_at.desc).map (fun d => d.parameters.length) = some 1 := by decide +kernel
set_option maxHeartbeats 4000000 in
set_option maxRecDepth 100000 in
theorem ctX3_at (l : Launch) (D : va_G) (cI cJ cZ : ClassId) (q_this q_bytes : Nat) (v_length : Int32) (w_bytes : Nat → Int32) (a1 : Int32) (o : Int32) (hsh : shX3_at a1 v_length w_bytes = some o) : CtI l yX3_at wsX3_at rmX3_at D (tys3 cI cJ cZ) noE (wdX3_at cI cJ cZ q_this q_bytes v_length w_bytes) [.ref q_this, .int a1] o (wdX3_at cI cJ cZ q_this q_bytes v_length w_bytes) := by
  refine ctI plX3 rfl (Nat.le_of_ble_eq_true rfl) ?_
  intro p e s m below meth c A Q S hK hA hE hret H locs hP hD hS ls hl
  replace S : CallFix p m c cX3_at 2 s _ wsX3_at RX3 := S
  generalize ([.ref q_this, .int a1] : List Value).toArray = args at S hret ⊢
  obtain ⟨hx, hb, hml, hown, hts⟩ := id S
  replace hl : lv_has ls 2 [(0, .ref q_this), (1, .int a1)] := hl
  unfold shX3_at at hsh
  refine lv_iload_n hx hb dX3_at_0 rfl (lv_at hl 1 rfl) ?_
  refine lv_if_lt (tgt := 21) hx hb dX3_at_1 (by decide) (fun c1 => ?_) (fun c1 => ?_)
  · skip
    have hsh := ite_t hsh c1
    refine lv_iconst (v := (-1 : Int32)) hx hb dX3_at_21 (by decide) ?_
    have ho := Option.some.inj hsh
    rw [← ho] at hret
    exact hret _ _ _ _ dX3_at_22 hP hD hS
  · skip
    have hsh := ite_f hsh c1
    refine lv_iload_n hx hb dX3_at_4 rfl (lv_at hl 1 rfl) ?_
    refine lv_aload_n hx hb dX3_at_5 rfl (lv_at hl 0 rfl) ?_
    refine kget (ci := 3) S hK hP rfl inX3_at_X3 0 rfl 1 (by decide) lkX3_at_15 rfl dX3_at_6 ?_
    refine lv_icmp_ge (tgt := 21) hx hb dX3_at_9 (by decide) (fun c1 => ?_) (fun c1 => ?_)
    · skip
      have hsh := ite_t hsh c1
      refine lv_iconst (v := (-1 : Int32)) hx hb dX3_at_21 (by decide) ?_
      have ho := Option.some.inj hsh
      rw [← ho] at hret
      exact hret _ _ _ _ dX3_at_22 hP hD hS
    · skip
      have hsh := ite_f hsh c1
      refine lv_aload_n hx hb dX3_at_12 rfl (lv_at hl 0 rfl) ?_
      refine kget (ci := 3) S hK hP rfl inX3_at_X3 0 rfl 0 (by decide) lkX3_at_11 rfl dX3_at_13 ?_
      refine lv_iload_n hx hb dX3_at_16 rfl (lv_at hl 1 rfl) ?_
      obtain ⟨_, hg, hsh⟩ := bd hsh
      refine kial S hK hP 1 0 rfl rfl (gd_in hg) dX3_at_17 ?_
      refine lv_goto (tgt := 22) hx hb dX3_at_18 (by decide) ?_
      have ho := Option.some.inj hsh
      rw [← ho] at hret
      exact hret _ _ _ _ dX3_at_22 hP hD hS
