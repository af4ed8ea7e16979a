/-! DryWells$Planner.worth -/
noncomputable def shX1_worth (v_worth : Int64) : Option (Int64) :=
  some v_worth
def wdX1_worth (cI cJ cZ : ClassId) (q_this q_gains q_roads q_steps q_worths q_depths q_rivals q_order : Nat) (v_admitted : Int32) (v_made : Int32) (v_worth : Int64) (v_set : Int32) (v_pipes : Int32) (v_days : Int32) (v_stops : Int32) : va_W := [(q_this, .inr (1, [.int v_admitted, .ref q_gains, .ref q_roads, .ref q_steps, .ref q_worths, .int v_made, .long v_worth, .int v_set, .int v_pipes, .int v_days, .int v_stops, .ref q_depths, .ref q_rivals, .ref q_order]))]
abbrev rmX1_worth : Room := { frames := 0, cells := 0, slots := 0, locals := 0 }
theorem inX1_worth_X1 : ∀ w ∈ u_ws RX1 TX1 14, w ∈ wsX1_worth := fun _ h => List.mem_cons_of_mem _ (List.mem_append_right _ h)
theorem lkX1_worth_39 : Cond.fieldLink RX1 39 (TX1 6).1 (TX1 6).2.1 (TX1 6).2.2.1 ∈ wsX1_worth := List.mem_of_getElem? (i := 1) rfl
theorem hdX1_worth : yX1_worth.cls = RX1 ∧ yX1_worth.cls ≠ "java/lang/invoke/MethodHandle" ∧ yX1_worth.cls ≠ "java/lang/invoke/VarHandle" ∧ (parseMethodDescriptor yX1_worth.desc).map (fun d => d.parameters.length) = some 0 := by decide +kernel
set_option maxHeartbeats 4000000 in
set_option maxRecDepth 100000 in
theorem ctX1_worth (l : Launch) (D : va_G) (cI cJ cZ : ClassId) (q_this q_gains q_roads q_steps q_worths q_depths q_rivals q_order : Nat) (v_admitted : Int32) (v_made : Int32) (v_worth : Int64) (v_set : Int32) (v_pipes : Int32) (v_days : Int32) (v_stops : Int32)  (o : Int64) (hsh : shX1_worth v_worth = some o) : CtL l yX1_worth wsX1_worth rmX1_worth D (tys3 cI cJ cZ) noE (wdX1_worth cI cJ cZ q_this q_gains q_roads q_steps q_worths q_depths q_rivals q_order v_admitted v_made v_worth v_set v_pipes v_days v_stops) [.ref q_this] o (wdX1_worth cI cJ cZ q_this q_gains q_roads q_steps q_worths q_depths q_rivals q_order v_admitted v_made v_worth v_set v_pipes v_days v_stops) := by
  refine ctL plX1 rfl (Nat.le_of_ble_eq_true rfl) ?_
  intro p e s m below meth c A Q S hK hA hE hret H locs hP hD hS ls hl
  replace S : CallFix p m c cX1_worth 1 s _ wsX1_worth RX1 := S
  generalize ([.ref q_this] : List Value).toArray = args at S hret ⊢
  obtain ⟨hx, hb, hml, hown, hts⟩ := id S
  replace hl : lv_has ls 1 [(0, .ref q_this)] := hl
  unfold shX1_worth at hsh
  refine lv_aload_n hx hb dX1_worth_0 rfl (lv_at hl 0 rfl) ?_
  refine kget (ci := 1) S hK hP rfl inX1_worth_X1 0 rfl 6 (by decide) lkX1_worth_39 rfl dX1_worth_1 ?_
  have ho := Option.some.inj hsh
  rw [← ho] at hret
  exact hret _ _ _ _ dX1_worth_4 hP hD hS

/-! DryWells$Planner.tell -/
noncomputable def shX1_tell (a1 : Int32) (a2 : Int32) (v_made : Int32) (v_pipes : Int32) (v_days : Int32) (v_stops : Int32) (w_depths : Nat → Int32) (w_order : Nat → Int32) : Option (Int32) :=
  (if ¬ v_made = 0 then (if a1 = (0 : Int32) then (if a2 < 0 then some (-1 : Int32) else (if v_stops ≤ a2 then some (-1 : Int32) else ((gd a2 7).bind fun _ => some (w_order (a2).toNatClampNeg)))) else (if a1 = (1 : Int32) then (if a2 < 0 then some (-1 : Int32) else (if v_stops ≤ a2 then some (-1 : Int32) else ((gd a2 7).bind fun _ => ((gd (w_order (a2).toNatClampNeg) 8).bind fun _ => some (w_depths ((w_order (a2).toNatClampNeg)).toNatClampNeg))))) else (if a1 = (2 : Int32) then some v_pipes else (if a1 = (3 : Int32) then some v_days else (if a1 = (4 : Int32) then some v_stops else some (-1 : Int32)))))) else some (-1 : Int32))
def wdX1_tell (cI cJ cZ : ClassId) (q_this q_gains q_roads q_steps q_worths q_depths q_rivals q_order : Nat) (v_admitted : Int32) (v_made : Int32) (v_worth : Int64) (v_set : Int32) (v_pipes : Int32) (v_days : Int32) (v_stops : Int32) (w_depths : Nat → Int32) (w_order : Nat → Int32) : va_W := [(q_this, .inr (1, [.int v_admitted, .ref q_gains, .ref q_roads, .ref q_steps, .ref q_worths, .int v_made, .long v_worth, .int v_set, .int v_pipes, .int v_days, .int v_stops, .ref q_depths, .ref q_rivals, .ref q_order])), (q_depths, .inl (cI, 8, .inl w_depths)), (q_order, .inl (cI, 7, .inl w_order))]
abbrev rmX1_tell : Room := { frames := 0, cells := 0, slots := 0, locals := 0 }
theorem inX1_tell_X1 : ∀ w ∈ u_ws RX1 TX1 14, w ∈ wsX1_tell := fun _ h => List.mem_cons_of_mem _ (List.mem_append_right _ h)
theorem lkX1_tell_35 : Cond.fieldLink RX1 35 (TX1 5).1 (TX1 5).2.1 (TX1 5).2.2.1 ∈ wsX1_tell := List.mem_of_getElem? (i := 1) rfl
theorem lkX1_tell_52 : Cond.fieldLink RX1 52 (TX1 10).1 (TX1 10).2.1 (TX1 10).2.2.1 ∈ wsX1_tell := List.mem_of_getElem? (i := 2) rfl
theorem lkX1_tell_61 : Cond.fieldLink RX1 61 (TX1 13).1 (TX1 13).2.1 (TX1 13).2.2.1 ∈ wsX1_tell := List.mem_of_getElem? (i := 3) rfl
theorem lkX1_tell_55 : Cond.fieldLink RX1 55 (TX1 11).1 (TX1 11).2.1 (TX1 11).2.2.1 ∈ wsX1_tell := List.mem_of_getElem? (i := 4) rfl
theorem lkX1_tell_46 : Cond.fieldLink RX1 46 (TX1 8).1 (TX1 8).2.1 (TX1 8).2.2.1 ∈ wsX1_tell := List.mem_of_getElem? (i := 5) rfl
theorem lkX1_tell_49 : Cond.fieldLink RX1 49 (TX1 9).1 (TX1 9).2.1 (TX1 9).2.2.1 ∈ wsX1_tell := List.mem_of_getElem? (i := 6) rfl
theorem hdX1_tell : yX1_tell.cls = RX1 ∧ yX1_tell.cls ≠ "java/lang/invoke/MethodHandle" ∧ yX1_tell.cls ≠ "java/lang/invoke/VarHandle" ∧ (parseMethodDescriptor yX1_tell.desc).map (fun d => d.parameters.length) = some 2 := by decide +kernel
set_option maxHeartbeats 4000000 in
set_option maxRecDepth 100000 in
theorem ctX1_tell (l : Launch) (D : va_G) (cI cJ cZ : ClassId) (q_this q_gains q_roads q_steps q_worths q_depths q_rivals q_order : Nat) (v_admitted : Int32) (v_made : Int32) (v_worth : Int64) (v_set : Int32) (v_pipes : Int32) (v_days : Int32) (v_stops : Int32) (w_depths : Nat → Int32) (w_order : Nat → Int32) (a1 : Int32) (a2 : Int32) (o : Int32) (hsh : shX1_tell a1 a2 v_made v_pipes v_days v_stops w_depths w_order = some o) : CtI l yX1_tell wsX1_tell rmX1_tell D (tys3 cI cJ cZ) noE (wdX1_tell cI cJ cZ q_this q_gains q_roads q_steps q_worths q_depths q_rivals q_order v_admitted v_made v_worth v_set v_pipes v_days v_stops w_depths w_order) [.ref q_this, .int a1, .int a2] o (wdX1_tell cI cJ cZ q_this q_gains q_roads q_steps q_worths q_depths q_rivals q_order v_admitted v_made v_worth v_set v_pipes v_days v_stops w_depths w_order) := by
  refine ctI plX1 rfl (Nat.le_of_ble_eq_true rfl) ?_
  intro p e s m below meth c A Q S hK hA hE hret H locs hP hD hS ls hl
  replace S : CallFix p m c cX1_tell 3 s _ wsX1_tell RX1 := S
  generalize ([.ref q_this, .int a1, .int a2] : List Value).toArray = args at S hret ⊢
  obtain ⟨hx, hb, hml, hown, hts⟩ := id S
  replace hl : lv_has ls 3 [(0, .ref q_this), (1, .int a1), (2, .int a2)] := hl
  unfold shX1_tell at hsh
  refine lv_aload_n hx hb dX1_tell_0 rfl (lv_at hl 0 rfl) ?_
  refine kget (ci := 1) S hK hP rfl inX1_tell_X1 0 rfl 5 (by decide) lkX1_tell_35 rfl dX1_tell_1 ?_
  refine lv_if_ne (tgt := 9) hx hb dX1_tell_4 (by decide) (fun c1 => ?_) (fun c1 => ?_)
  · skip
    have hsh := ite_t hsh c1
    refine lv_iload_n hx hb dX1_tell_9 rfl (lv_at hl 1 rfl) ?_
    by_cases c_0 : a1 = (0 : Int32)
    · have hsh := ite_t hsh c_0
      refine lv_tableIn (tgt := 44) hx hb dX1_tell_10 (by rw [c_0]; decide) (by rw [c_0]; decide) (by rw [c_0]; rfl) (by decide) ?_
      refine lv_iload_n hx hb dX1_tell_44 rfl (lv_at hl 2 rfl) ?_
      refine lv_if_lt (tgt := 65) hx hb dX1_tell_45 (by decide) (fun c1 => ?_) (fun c1 => ?_)
      · skip
        have hsh := ite_t hsh c1
        refine lv_iconst (v := (-1 : Int32)) hx hb dX1_tell_65 (by decide) ?_
        have ho := Option.some.inj hsh
        rw [← ho] at hret
        exact hret _ _ _ _ dX1_tell_66 hP hD hS
      · skip
        have hsh := ite_f hsh c1
        refine lv_iload_n hx hb dX1_tell_48 rfl (lv_at hl 2 rfl) ?_
        refine lv_aload_n hx hb dX1_tell_49 rfl (lv_at hl 0 rfl) ?_
        refine kget (ci := 1) S hK hP rfl inX1_tell_X1 0 rfl 10 (by decide) lkX1_tell_52 rfl dX1_tell_50 ?_
        refine lv_icmp_ge (tgt := 65) hx hb dX1_tell_53 (by decide) (fun c1 => ?_) (fun c1 => ?_)
        · skip
          have hsh := ite_t hsh c1
          refine lv_iconst (v := (-1 : Int32)) hx hb dX1_tell_65 (by decide) ?_
          have ho := Option.some.inj hsh
          rw [← ho] at hret
          exact hret _ _ _ _ dX1_tell_66 hP hD hS
        · skip
          have hsh := ite_f hsh c1
          refine lv_aload_n hx hb dX1_tell_56 rfl (lv_at hl 0 rfl) ?_
          refine kget (ci := 1) S hK hP rfl inX1_tell_X1 0 rfl 13 (by decide) lkX1_tell_61 rfl dX1_tell_57 ?_
          refine lv_iload_n hx hb dX1_tell_60 rfl (lv_at hl 2 rfl) ?_
          obtain ⟨_, hg, hsh⟩ := bd hsh
          refine kial S hK hP 2 0 rfl rfl (gd_in hg) dX1_tell_61 ?_
          refine lv_goto (tgt := 66) hx hb dX1_tell_62 (by decide) ?_
          have ho := Option.some.inj hsh
          rw [← ho] at hret
          exact hret _ _ _ _ dX1_tell_66 hP hD hS
    have hsh := ite_f hsh c_0
    by_cases c_1 : a1 = (1 : Int32)
    · have hsh := ite_t hsh c_1
      refine lv_tableIn (tgt := 67) hx hb dX1_tell_10 (by rw [c_1]; decide) (by rw [c_1]; decide) (by rw [c_1]; rfl) (by decide) ?_
      refine lv_iload_n hx hb dX1_tell_67 rfl (lv_at hl 2 rfl) ?_
      refine lv_if_lt (tgt := 93) hx hb dX1_tell_68 (by decide) (fun c1 => ?_) (fun c1 => ?_)
      · skip
        have hsh := ite_t hsh c1
        refine lv_iconst (v := (-1 : Int32)) hx hb dX1_tell_93 (by decide) ?_
        have ho := Option.some.inj hsh
        rw [← ho] at hret
        exact hret _ _ _ _ dX1_tell_94 hP hD hS
      · skip
        have hsh := ite_f hsh c1
        refine lv_iload_n hx hb dX1_tell_71 rfl (lv_at hl 2 rfl) ?_
        refine lv_aload_n hx hb dX1_tell_72 rfl (lv_at hl 0 rfl) ?_
        refine kget (ci := 1) S hK hP rfl inX1_tell_X1 0 rfl 10 (by decide) lkX1_tell_52 rfl dX1_tell_73 ?_
        refine lv_icmp_ge (tgt := 93) hx hb dX1_tell_76 (by decide) (fun c1 => ?_) (fun c1 => ?_)
        · skip
          have hsh := ite_t hsh c1
          refine lv_iconst (v := (-1 : Int32)) hx hb dX1_tell_93 (by decide) ?_
          have ho := Option.some.inj hsh
          rw [← ho] at hret
          exact hret _ _ _ _ dX1_tell_94 hP hD hS
        · skip
          have hsh := ite_f hsh c1
          refine lv_aload_n hx hb dX1_tell_79 rfl (lv_at hl 0 rfl) ?_
          refine kget (ci := 1) S hK hP rfl inX1_tell_X1 0 rfl 11 (by decide) lkX1_tell_55 rfl dX1_tell_80 ?_
          refine lv_aload_n hx hb dX1_tell_83 rfl (lv_at hl 0 rfl) ?_
          refine kget (ci := 1) S hK hP rfl inX1_tell_X1 0 rfl 13 (by decide) lkX1_tell_61 rfl dX1_tell_84 ?_
          refine lv_iload_n hx hb dX1_tell_87 rfl (lv_at hl 2 rfl) ?_
          obtain ⟨_, hg, hsh⟩ := bd hsh
          refine kial S hK hP 2 0 rfl rfl (gd_in hg) dX1_tell_88 ?_
          obtain ⟨_, hg, hsh⟩ := bd hsh
          refine kial S hK hP 1 0 rfl rfl (gd_in hg) dX1_tell_89 ?_
          refine lv_goto (tgt := 94) hx hb dX1_tell_90 (by decide) ?_
          have ho := Option.some.inj hsh
          rw [← ho] at hret
          exact hret _ _ _ _ dX1_tell_94 hP hD hS
    have hsh := ite_f hsh c_1
    by_cases c_2 : a1 = (2 : Int32)
    · have hsh := ite_t hsh c_2
      refine lv_tableIn (tgt := 95) hx hb dX1_tell_10 (by rw [c_2]; decide) (by rw [c_2]; decide) (by rw [c_2]; rfl) (by decide) ?_
      refine lv_aload_n hx hb dX1_tell_95 rfl (lv_at hl 0 rfl) ?_
      refine kget (ci := 1) S hK hP rfl inX1_tell_X1 0 rfl 8 (by decide) lkX1_tell_46 rfl dX1_tell_96 ?_
      have ho := Option.some.inj hsh
      rw [← ho] at hret
      exact hret _ _ _ _ dX1_tell_99 hP hD hS
    have hsh := ite_f hsh c_2
    by_cases c_3 : a1 = (3 : Int32)
    · have hsh := ite_t hsh c_3
      refine lv_tableIn (tgt := 100) hx hb dX1_tell_10 (by rw [c_3]; decide) (by rw [c_3]; decide) (by rw [c_3]; rfl) (by decide) ?_
      refine lv_aload_n hx hb dX1_tell_100 rfl (lv_at hl 0 rfl) ?_
      refine kget (ci := 1) S hK hP rfl inX1_tell_X1 0 rfl 9 (by decide) lkX1_tell_49 rfl dX1_tell_101 ?_
      have ho := Option.some.inj hsh
      rw [← ho] at hret
      exact hret _ _ _ _ dX1_tell_104 hP hD hS
    have hsh := ite_f hsh c_3
    by_cases c_4 : a1 = (4 : Int32)
    · have hsh := ite_t hsh c_4
      refine lv_tableIn (tgt := 105) hx hb dX1_tell_10 (by rw [c_4]; decide) (by rw [c_4]; decide) (by rw [c_4]; rfl) (by decide) ?_
      refine lv_aload_n hx hb dX1_tell_105 rfl (lv_at hl 0 rfl) ?_
      refine kget (ci := 1) S hK hP rfl inX1_tell_X1 0 rfl 10 (by decide) lkX1_tell_52 rfl dX1_tell_106 ?_
      have ho := Option.some.inj hsh
      rw [← ho] at hret
      exact hret _ _ _ _ dX1_tell_109 hP hD hS
    have hsh := ite_f hsh c_4
    refine lv_tableOut (tgt := 110) hx hb dX1_tell_10 (ts_out (n := 4) (by decide) (fun k hk => by rcases (show k = 0 ∨ k = 1 ∨ k = 2 ∨ k = 3 ∨ k = 4 by omega) with rfl | rfl | rfl | rfl | rfl <;> assumption)) (by decide) ?_
    refine lv_iconst (v := (-1 : Int32)) hx hb dX1_tell_110 (by decide) ?_
    have ho := Option.some.inj hsh
    rw [← ho] at hret
    exact hret _ _ _ _ dX1_tell_111 hP hD hS
  · skip
    have hsh := ite_f hsh (fun h => h c1)
    refine lv_iconst (v := (-1 : Int32)) hx hb dX1_tell_7 (by decide) ?_
    have ho := Option.some.inj hsh
    rw [← ho] at hret
    exact hret _ _ _ _ dX1_tell_8 hP hD hS

/-! DryWells$Planner.bit -/
noncomputable def shX1_bit (a0 : Int32) : Option (Int32) :=
  some ((1 : Int32) <<< ((a0 - (1 : Int32)) &&& 31))
def wdX1_bit (cI cJ cZ : ClassId)   : va_W := []
abbrev rmX1_bit : Room := { frames := 0, cells := 0, slots := 0, locals := 0 }
theorem hdX1_bit : yX1_bit.cls ≠ "java/lang/invoke/MethodHandle" ∧ yX1_bit.cls ≠ "java/lang/invoke/VarHandle" ∧ (parseMethodDescriptor yX1_bit.desc).map (fun d => d.parameters.length) = some 1 := by decide +kernel
set_option maxHeartbeats 4000000 in
set_option maxRecDepth 100000 in
theorem ctX1_bit (l : Launch) (D : va_G) (cI cJ cZ : ClassId)  (a0 : Int32) (o : Int32) (hsh : shX1_bit a0 = some o) : CtI l yX1_bit wsX1_bit rmX1_bit D (tys3 cI cJ cZ) noE (wdX1_bit cI cJ cZ ) [.int a0] o (wdX1_bit cI cJ cZ ) := by
  refine ctI plX1 rfl (Nat.le_of_ble_eq_true rfl) ?_
  intro p e s m below meth c A Q S hK hA hE hret H locs hP hD hS ls hl
  replace S : CallFix p m c cX1_bit 1 s _ wsX1_bit RX1 := S
  generalize ([.int a0] : List Value).toArray = args at S hret ⊢
  obtain ⟨hx, hb, hml, hown, hts⟩ := id S
  replace hl : lv_has ls 1 [(0, .int a0)] := hl
  unfold shX1_bit at hsh
  refine lv_iconst (v := (1 : Int32)) hx hb dX1_bit_0 (by decide) ?_
  refine lv_iload_n hx hb dX1_bit_1 rfl (lv_at hl 0 rfl) ?_
  refine lv_iconst (v := (1 : Int32)) hx hb dX1_bit_2 (by decide) ?_
  refine lv_isub hx hb dX1_bit_3 ?_
  refine lv_ishl hx hb dX1_bit_4 ?_
  have ho := Option.some.inj hsh
  rw [← ho] at hret
  exact hret _ _ _ _ dX1_bit_5 hP hD hS

/-! DryWells$Planner, who may be in a PLAN -/
noncomputable def shX1_admit_j_99 (v_admitted_j_99 : Int32) (w_gains_j_99 : Nat → Int64) : Option (Int32 × (Nat → Int64)) :=
  some (v_admitted_j_99, w_gains_j_99)
noncomputable def shX1_admit_k8_93 (x4_8 : Int32) (v_admitted_k8_93 : Int32) (w_gains_k8_93 : Nat → Int64) : Option ((Int32 × Int32 × (Nat → Int64)) ⊕ ((Int32 × (Nat → Int64)))) :=
  some (Sum.inl ((x4_8 + (1 : Int32)), v_admitted_k8_93, w_gains_k8_93))
noncomputable def shX1_admit_L44 (w_p1_rocks : Nat → Int32) (w_p1_people : Nat → Int32) (w_p2_priors : Nat → Int32) (w_p2_chances : Nat → Int32) (w_p2_wet : Nat → Int32) (w_p2_barren : Nat → Int32) (x4_8 : Int32) (x5_44 : Int32) (w_gains_44 : Nat → Int64) : Option ((Int32 × (Nat → Int64)) ⊕ (((Nat → Int64)))) :=
  (if (4 : Int32) < x5_44 then some (Sum.inr w_gains_44) else ((shX4_rockOf x4_8 w_p1_rocks).bind fun o_54 => ((shX2_hopeOn o_54 x5_44 w_p2_priors w_p2_chances w_p2_wet w_p2_barren).bind fun o_59 => ((shX4_peopleOf x4_8 w_p1_people).bind fun o_79 => ((gd ((x4_8 * (5 : Int32)) + x5_44) 40).bind fun _ => some (Sum.inl ((x5_44 + (1 : Int32)), (vp_updL w_gains_44 (((x4_8 * (5 : Int32)) + x5_44)).toNatClampNeg ((o_79).toInt64 * (o_59).toInt64)))))))))
noncomputable def shX1_admit_L8 (a3 : Int32) (v_p1_size : Int32) (w_p1_rocks : Nat → Int32) (w_p1_people : Nat → Int32) (w_p1_badHoles : Nat → Int32) (w_p1_wellPipes : Nat → Int32) (w_p2_priors : Nat → Int32) (w_p2_chances : Nat → Int32) (w_p2_wet : Nat → Int32) (w_p2_barren : Nat → Int32) (x4_8 : Int32) (v_admitted_8 : Int32) (w_gains_8 : Nat → Int64) : Option ((Int32 × Int32 × (Nat → Int64)) ⊕ ((Int32 × (Nat → Int64)))) :=
  ((shX4_size v_p1_size).bind fun o_11 => (if o_11 < x4_8 then some (Sum.inr (v_admitted_8, w_gains_8)) else ((shX4_state x4_8 a3 w_p1_badHoles w_p1_wellPipes).bind fun o_21 => (if ¬ o_21 = 0 then (shX1_admit_k8_93 x4_8 v_admitted_8 w_gains_8) else ((shX1_bit x4_8).bind fun o_34 => ((lp (fun s : Int32 × (Nat → Int64) => shX1_admit_L44 w_p1_rocks w_p1_people w_p2_priors w_p2_chances w_p2_wet w_p2_barren x4_8 s.1 s.2) ((1 : Int32), w_gains_8)).bind (fun p : (Nat → Int64) => shX1_admit_k8_93 x4_8 (v_admitted_8 ||| o_34) p)))))))
noncomputable def shX1_admit (a3 : Int32) (v_admitted : Int32) (w_gains : Nat → Int64) (v_p1_size : Int32) (w_p1_rocks : Nat → Int32) (w_p1_people : Nat → Int32) (w_p1_badHoles : Nat → Int32) (w_p1_wellPipes : Nat → Int32) (w_p2_priors : Nat → Int32) (w_p2_chances : Nat → Int32) (w_p2_wet : Nat → Int32) (w_p2_barren : Nat → Int32) : Option (Int32 × (Nat → Int64)) :=
  ((lp (fun s : Int32 × Int32 × (Nat → Int64) => shX1_admit_L8 a3 v_p1_size w_p1_rocks w_p1_people w_p1_badHoles w_p1_wellPipes w_p2_priors w_p2_chances w_p2_wet w_p2_barren s.1 s.2.1 s.2.2) ((1 : Int32), (0 : Int32), w_gains)).bind (fun p : Int32 × (Nat → Int64) => shX1_admit_j_99 p.1 p.2))
def wdX1_admit (cI cJ cZ : ClassId) (q_this q_p1 q_p2 q_gains q_roads q_steps q_worths q_depths q_rivals q_order q_p1_rocks q_p1_people q_p1_badHoles q_p1_wellPipes q_p1_endAges q_p1_runAges q_p2_priors q_p2_chances q_p2_wet q_p2_barren q_p2_pipes : Nat) (v_admitted : Int32) (v_made : Int32) (v_worth : Int64) (v_set : Int32) (v_pipes : Int32) (v_days : Int32) (v_stops : Int32) (v_p1_size : Int32) (v_p2_size : Int32) (w_gains : Nat → Int64) (w_p1_rocks : Nat → Int32) (w_p1_people : Nat → Int32) (w_p1_badHoles : Nat → Int32) (w_p1_wellPipes : Nat → Int32) (w_p2_priors : Nat → Int32) (w_p2_chances : Nat → Int32) (w_p2_wet : Nat → Int32) (w_p2_barren : Nat → Int32) : va_W := [(q_this, .inr (1, [.int v_admitted, .ref q_gains, .ref q_roads, .ref q_steps, .ref q_worths, .int v_made, .long v_worth, .int v_set, .int v_pipes, .int v_days, .int v_stops, .ref q_depths, .ref q_rivals, .ref q_order])), (q_gains, .inl (cJ, 40, .inr (.inl w_gains))), (q_p1, .inr (4, [.ref q_p1_rocks, .ref q_p1_people, .ref q_p1_badHoles, .ref q_p1_wellPipes, .ref q_p1_endAges, .ref q_p1_runAges, .int v_p1_size])), (q_p1_rocks, .inl (cI, 8, .inl w_p1_rocks)), (q_p1_people, .inl (cI, 8, .inl w_p1_people)), (q_p1_badHoles, .inl (cI, 8, .inl w_p1_badHoles)), (q_p1_wellPipes, .inl (cI, 8, .inl w_p1_wellPipes)), (q_p2, .inr (2, [.ref q_p2_priors, .ref q_p2_chances, .ref q_p2_wet, .ref q_p2_barren, .ref q_p2_pipes, .int v_p2_size])), (q_p2_priors, .inl (cI, 12, .inl w_p2_priors)), (q_p2_chances, .inl (cI, 12, .inl w_p2_chances)), (q_p2_wet, .inl (cI, 16, .inl w_p2_wet)), (q_p2_barren, .inl (cI, 16, .inl w_p2_barren))]
abbrev rmX1_admit : Room := { frames := 3, cells := 0, slots := 0, locals := 79 }
theorem inX1_admit_X1 : ∀ w ∈ u_ws RX1 TX1 14, w ∈ wsX1_admit := fun _ h => List.mem_cons_of_mem _ (List.mem_append_left _ (List.mem_append_left _ (List.mem_append_right _ h)))
theorem inX1_admit_X4 : ∀ w ∈ u_ws RX4 TX4 7, w ∈ wsX1_admit := fun _ h => List.mem_cons_of_mem _ (List.mem_append_left _ (List.mem_append_right _ h))
theorem inX1_admit_X2 : ∀ w ∈ u_ws RX2 TX2 6, w ∈ wsX1_admit := fun _ h => List.mem_cons_of_mem _ (List.mem_append_right _ h)
theorem lkX1_admit_15 : Cond.fieldLink RX1 15 (TX1 0).1 (TX1 0).2.1 (TX1 0).2.2.1 ∈ wsX1_admit := List.mem_of_getElem? (i := 1) rfl
theorem lkX1_admit_21 : Cond.fieldLink RX1 21 (TX1 1).1 (TX1 1).2.1 (TX1 1).2.2.1 ∈ wsX1_admit := List.mem_of_getElem? (i := 2) rfl
theorem hdX1_admit : yX1_admit.cls = RX1 ∧ yX1_admit.cls ≠ "java/lang/invoke/MethodHandle" ∧ yX1_admit.cls ≠ "java/lang/invoke/VarHandle" ∧ (parseMethodDescriptor yX1_admit.desc).map (fun d => d.parameters.length) = some 3 := by decide +kernel
set_option maxHeartbeats 4000000 in
set_option maxRecDepth 100000 in
theorem ctX1_admit (l : Launch) (D : va_G) (cI cJ cZ : ClassId) (q_this q_p1 q_p2 q_gains q_roads q_steps q_worths q_depths q_rivals q_order q_p1_rocks q_p1_people q_p1_badHoles q_p1_wellPipes q_p1_endAges q_p1_runAges q_p2_priors q_p2_chances q_p2_wet q_p2_barren q_p2_pipes : Nat) (v_admitted : Int32) (v_made : Int32) (v_worth : Int64) (v_set : Int32) (v_pipes : Int32) (v_days : Int32) (v_stops : Int32) (v_p1_size : Int32) (v_p2_size : Int32) (w_gains : Nat → Int64) (w_p1_rocks : Nat → Int32) (w_p1_people : Nat → Int32) (w_p1_badHoles : Nat → Int32) (w_p1_wellPipes : Nat → Int32) (w_p2_priors : Nat → Int32) (w_p2_chances : Nat → Int32) (w_p2_wet : Nat → Int32) (w_p2_barren : Nat → Int32) (a3 : Int32) (o : Int32 × (Nat → Int64)) (hsh : shX1_admit a3 v_admitted w_gains v_p1_size w_p1_rocks w_p1_people w_p1_badHoles w_p1_wellPipes w_p2_priors w_p2_chances w_p2_wet w_p2_barren = some o) : CtV l yX1_admit wsX1_admit rmX1_admit D (tys3 cI cJ cZ) noE (wdX1_admit cI cJ cZ q_this q_p1 q_p2 q_gains q_roads q_steps q_worths q_depths q_rivals q_order q_p1_rocks q_p1_people q_p1_badHoles q_p1_wellPipes q_p1_endAges q_p1_runAges q_p2_priors q_p2_chances q_p2_wet q_p2_barren q_p2_pipes v_admitted v_made v_worth v_set v_pipes v_days v_stops v_p1_size v_p2_size w_gains w_p1_rocks w_p1_people w_p1_badHoles w_p1_wellPipes w_p2_priors w_p2_chances w_p2_wet w_p2_barren) [.ref q_this, .ref q_p1, .ref q_p2, .int a3]  (wdX1_admit cI cJ cZ q_this q_p1 q_p2 q_gains q_roads q_steps q_worths q_depths q_rivals q_order q_p1_rocks q_p1_people q_p1_badHoles q_p1_wellPipes q_p1_endAges q_p1_runAges q_p2_priors q_p2_chances q_p2_wet q_p2_barren q_p2_pipes o.1 v_made v_worth v_set v_pipes v_days v_stops v_p1_size v_p2_size o.2 w_p1_rocks w_p1_people w_p1_badHoles w_p1_wellPipes w_p2_priors w_p2_chances w_p2_wet w_p2_barren) := by
  refine ctV plX1 rfl (Nat.le_of_ble_eq_true rfl) ?_
  intro p e s m below meth c A Q S hK hA hE hret H locs hP hD hS ls hl
  replace S : CallFix p m c cX1_admit 8 s _ wsX1_admit RX1 := S
  generalize ([.ref q_this, .ref q_p1, .ref q_p2, .int a3] : List Value).toArray = args at S hret ⊢
  obtain ⟨hx, hb, hml, hown, hts⟩ := id S
  replace hl : lv_has ls 8 [(0, .ref q_this), (1, .ref q_p1), (2, .ref q_p2), (3, .int a3)] := hl
  unfold shX1_admit at hsh
  have Jj_99 : ∀ (v_admitted_j_99 : Int32) (w_gains_j_99 : Nat → Int64) (H : Heap) (locs : List Loc), va_P D vwCl (wdX1_admit cI cJ cZ q_this q_p1 q_p2 q_gains q_roads q_steps q_worths q_depths q_rivals q_order q_p1_rocks q_p1_people q_p1_badHoles q_p1_wellPipes q_p1_endAges q_p1_runAges q_p2_priors q_p2_chances q_p2_wet q_p2_barren q_p2_pipes v_admitted_j_99 v_made v_worth v_set v_pipes v_days v_stops v_p1_size v_p2_size w_gains_j_99 w_p1_rocks w_p1_people w_p1_badHoles w_p1_wellPipes w_p2_priors w_p2_chances w_p2_wet w_p2_barren) H → va_D A (wdX1_admit cI cJ cZ q_this q_p1 q_p2 q_gains q_roads q_steps q_worths q_depths q_rivals q_order q_p1_rocks q_p1_people q_p1_badHoles q_p1_wellPipes q_p1_endAges q_p1_runAges q_p2_priors q_p2_chances q_p2_wet q_p2_barren q_p2_pipes v_admitted_j_99 v_made v_worth v_set v_pipes v_days v_stops v_p1_size v_p2_size w_gains_j_99 w_p1_rocks w_p1_people w_p1_badHoles w_p1_wellPipes w_p2_priors w_p2_chances w_p2_wet w_p2_barren) → va_S A s.heap H locs → ∀ ls : Array Slot, lv_has ls 8 [] → shX1_admit_j_99 v_admitted_j_99 w_gains_j_99 = some o → W p l e rmX1_admit s m args below meth c H locs 0 0 Q (F0 m 99 ls []) := by
    intro v_admitted_j_99 w_gains_j_99 H locs hP hD hS ls hl hsh
    unfold shX1_admit_j_99 at hsh
    have ho := Option.some.inj hsh
    rw [← ho] at hret
    exact hret _ _ _ _ dX1_admit_99 hP hD hS
  refine lv_aload_n hx hb dX1_admit_0 rfl (lv_at hl 0 rfl) ?_
  refine lv_iconst (v := (0 : Int32)) hx hb dX1_admit_1 (by decide) ?_
  refine kput (ci := 1) S hK hP hD hS rfl inX1_admit_X1 tyX1_ok nmX1 0 rfl 0 (by decide) lkX1_admit_15 rfl rfl rfl (Nat.le_of_ble_eq_true rfl) (ws' := (wdX1_admit cI cJ cZ q_this q_p1 q_p2 q_gains q_roads q_steps q_worths q_depths q_rivals q_order q_p1_rocks q_p1_people q_p1_badHoles q_p1_wellPipes q_p1_endAges q_p1_runAges q_p2_priors q_p2_chances q_p2_wet q_p2_barren q_p2_pipes (0 : Int32) v_made v_worth v_set v_pipes v_days v_stops v_p1_size v_p2_size w_gains w_p1_rocks w_p1_people w_p1_badHoles w_p1_wellPipes w_p2_priors w_p2_chances w_p2_wet w_p2_barren)) rfl dX1_admit_2 (fun H locs hP hD hS => ?_)
  refine lv_iconst (v := (1 : Int32)) hx hb dX1_admit_5 (by decide) ?_
  refine lv_istore (lv' := [(4, .int (1 : Int32)), (0, .ref q_this), (1, .ref q_p1), (2, .ref q_p2), (3, .int a3)]) hx hb dX1_admit_6 hl (by decide) rfl (fun ls hl => ?_)
  obtain ⟨r_8, hl_8, hk_8⟩ := bd hsh
  obtain ⟨n_8, hn_8⟩ := lp_iff.mp hl_8
  have L_8 : ∀ (n : Nat) (x4_8 : Int32) (v_admitted_8 : Int32) (w_gains_8 : Nat → Int64) (H : Heap) (locs : List Loc), va_P D vwCl (wdX1_admit cI cJ cZ q_this q_p1 q_p2 q_gains q_roads q_steps q_worths q_depths q_rivals q_order q_p1_rocks q_p1_people q_p1_badHoles q_p1_wellPipes q_p1_endAges q_p1_runAges q_p2_priors q_p2_chances q_p2_wet q_p2_barren q_p2_pipes v_admitted_8 v_made v_worth v_set v_pipes v_days v_stops v_p1_size v_p2_size w_gains_8 w_p1_rocks w_p1_people w_p1_badHoles w_p1_wellPipes w_p2_priors w_p2_chances w_p2_wet w_p2_barren) H → va_D A (wdX1_admit cI cJ cZ q_this q_p1 q_p2 q_gains q_roads q_steps q_worths q_depths q_rivals q_order q_p1_rocks q_p1_people q_p1_badHoles q_p1_wellPipes q_p1_endAges q_p1_runAges q_p2_priors q_p2_chances q_p2_wet q_p2_barren q_p2_pipes v_admitted_8 v_made v_worth v_set v_pipes v_days v_stops v_p1_size v_p2_size w_gains_8 w_p1_rocks w_p1_people w_p1_badHoles w_p1_wellPipes w_p2_priors w_p2_chances w_p2_wet w_p2_barren) → va_S A s.heap H locs → ∀ ls : Array Slot, lv_has ls 8 [(0, .ref q_this), (1, .ref q_p1), (2, .ref q_p2), (3, .int a3), (4, .int x4_8)] → it (fun s : Int32 × Int32 × (Nat → Int64) => shX1_admit_L8 a3 v_p1_size w_p1_rocks w_p1_people w_p1_badHoles w_p1_wellPipes w_p2_priors w_p2_chances w_p2_wet w_p2_barren s.1 s.2.1 s.2.2) n (x4_8, v_admitted_8, w_gains_8) = some r_8 → W p l e rmX1_admit s m args below meth c H locs 0 0 Q (F0 m 8 ls []) := by
    intro n
    induction n with
    | zero => exact fun _ _ _ _ _ _ _ _ _ _ hi => it_0 hi
    | succ n ih_8 =>
      intro x4_8 v_admitted_8 w_gains_8 H locs hP hD hS ls hl hi
      obtain ⟨b_8, hsh, hB1_8, hB2_8⟩ := it_b hi
      replace hsh : shX1_admit_L8 a3 v_p1_size w_p1_rocks w_p1_people w_p1_badHoles w_p1_wellPipes w_p2_priors w_p2_chances w_p2_wet w_p2_barren x4_8 v_admitted_8 w_gains_8 = some b_8 := hsh
      unfold shX1_admit_L8 at hsh
      have Jk8_93 : ∀ (v_admitted_k8_93 : Int32) (w_gains_k8_93 : Nat → Int64) (H : Heap) (locs : List Loc), va_P D vwCl (wdX1_admit cI cJ cZ q_this q_p1 q_p2 q_gains q_roads q_steps q_worths q_depths q_rivals q_order q_p1_rocks q_p1_people q_p1_badHoles q_p1_wellPipes q_p1_endAges q_p1_runAges q_p2_priors q_p2_chances q_p2_wet q_p2_barren q_p2_pipes v_admitted_k8_93 v_made v_worth v_set v_pipes v_days v_stops v_p1_size v_p2_size w_gains_k8_93 w_p1_rocks w_p1_people w_p1_badHoles w_p1_wellPipes w_p2_priors w_p2_chances w_p2_wet w_p2_barren) H → va_D A (wdX1_admit cI cJ cZ q_this q_p1 q_p2 q_gains q_roads q_steps q_worths q_depths q_rivals q_order q_p1_rocks q_p1_people q_p1_badHoles q_p1_wellPipes q_p1_endAges q_p1_runAges q_p2_priors q_p2_chances q_p2_wet q_p2_barren q_p2_pipes v_admitted_k8_93 v_made v_worth v_set v_pipes v_days v_stops v_p1_size v_p2_size w_gains_k8_93 w_p1_rocks w_p1_people w_p1_badHoles w_p1_wellPipes w_p2_priors w_p2_chances w_p2_wet w_p2_barren) → va_S A s.heap H locs → ∀ ls : Array Slot, lv_has ls 8 [(0, .ref q_this), (1, .ref q_p1), (2, .ref q_p2), (3, .int a3), (4, .int x4_8)] → shX1_admit_k8_93 x4_8 v_admitted_k8_93 w_gains_k8_93 = some b_8 → W p l e rmX1_admit s m args below meth c H locs 0 0 Q (F0 m 93 ls []) := by
        intro v_admitted_k8_93 w_gains_k8_93 H locs hP hD hS ls hl hsh
        unfold shX1_admit_k8_93 at hsh
        refine lv_iinc (v := (x4_8 + (1 : Int32))) (lv' := [(4, .int (x4_8 + (1 : Int32))), (0, .ref q_this), (1, .ref q_p1), (2, .ref q_p2), (3, .int a3)]) hx hb dX1_admit_93 hl (k := 4) rfl (congrArg (fun z : Int32 => x4_8 + z) (by decide)) (by decide) rfl (fun ls hl => ?_)
        refine lv_goto (tgt := 8) hx hb dX1_admit_96 (by decide) ?_
        exact ih_8 (x4_8 + (1 : Int32)) v_admitted_k8_93 w_gains_k8_93 H locs hP hD hS ls (lv_sub hl [1, 2, 3, 4, 0] rfl) (hB1_8 _ hsh)
      refine lv_iload hx hb dX1_admit_8 (lv_at hl 4 rfl) ?_
      refine lv_aload_n hx hb dX1_admit_10 rfl (lv_at hl 1 rfl) ?_
      obtain ⟨o_11, he, hsh⟩ := bd hsh
      refine kVi (ci := 4) S hK hA (ctX4_size l D cI cJ cZ q_p1 q_p1_rocks q_p1_people q_p1_badHoles q_p1_wellPipes q_p1_endAges q_p1_runAges v_p1_size o_11 he) noE_cl (cwV 0 hts gX1_admit_X4_size rfl rfl rfl hdX4_size ⟨Nat.le_of_ble_eq_true rfl, Nat.le_of_ble_eq_true rfl⟩) rfl 0 rfl [2] [0, 1, 3, 4, 5, 6, 7, 8, 9, 10, 11] [0, 1, 11, 2, 3, 4, 5, 6, 7, 8, 9, 10] (ws' := (wdX1_admit cI cJ cZ q_this q_p1 q_p2 q_gains q_roads q_steps q_worths q_depths q_rivals q_order q_p1_rocks q_p1_people q_p1_badHoles q_p1_wellPipes q_p1_endAges q_p1_runAges q_p2_priors q_p2_chances q_p2_wet q_p2_barren q_p2_pipes v_admitted_8 v_made v_worth v_set v_pipes v_days v_stops v_p1_size v_p2_size w_gains_8 w_p1_rocks w_p1_people w_p1_badHoles w_p1_wellPipes w_p2_priors w_p2_chances w_p2_wet w_p2_barren)) ⟨rfl, rfl, rfl, rfl, rfl, rfl, rfl⟩ trivial rfl hl.1 rfl (Nat.le_of_ble_eq_true rfl) dX1_admit_11 hP hD hS (fun H locs hP hD hS => ?_)
      refine lv_icmp_gt (tgt := 99) hx hb dX1_admit_14 (by decide) (fun c1 => ?_) (fun c1 => ?_)
      · skip
        have hsh := ite_t hsh c1
        have he := hB2_8 _ hsh
        rw [← he] at hk_8
        exact Jj_99 v_admitted_8 w_gains_8 H locs hP hD hS ls (lv_sub hl [] rfl) hk_8
      · skip
        have hsh := ite_f hsh c1
        refine lv_aload_n hx hb dX1_admit_17 rfl (lv_at hl 1 rfl) ?_
        refine lv_iload hx hb dX1_admit_18 (lv_at hl 4 rfl) ?_
        refine lv_iload_n hx hb dX1_admit_20 rfl (lv_at hl 3 rfl) ?_
        obtain ⟨o_21, he, hsh⟩ := bd hsh
        refine kVi (ci := 4) S hK hA (ctX4_state l D cI cJ cZ q_p1 q_p1_rocks q_p1_people q_p1_badHoles q_p1_wellPipes q_p1_endAges q_p1_runAges v_p1_size w_p1_badHoles w_p1_wellPipes x4_8 a3 o_21 he) noE_cl (cwV 2 hts gX1_admit_X4_state rfl rfl rfl hdX4_state ⟨Nat.le_of_ble_eq_true rfl, Nat.le_of_ble_eq_true rfl⟩) rfl 0 rfl [2, 5, 6] [0, 1, 3, 4, 7, 8, 9, 10, 11] [0, 1, 9, 2, 3, 10, 11, 4, 5, 6, 7, 8] (ws' := (wdX1_admit cI cJ cZ q_this q_p1 q_p2 q_gains q_roads q_steps q_worths q_depths q_rivals q_order q_p1_rocks q_p1_people q_p1_badHoles q_p1_wellPipes q_p1_endAges q_p1_runAges q_p2_priors q_p2_chances q_p2_wet q_p2_barren q_p2_pipes v_admitted_8 v_made v_worth v_set v_pipes v_days v_stops v_p1_size v_p2_size w_gains_8 w_p1_rocks w_p1_people w_p1_badHoles w_p1_wellPipes w_p2_priors w_p2_chances w_p2_wet w_p2_barren)) ⟨rfl, rfl, rfl, rfl, rfl, rfl, rfl⟩ trivial rfl hl.1 rfl (Nat.le_of_ble_eq_true rfl) dX1_admit_21 hP hD hS (fun H locs hP hD hS => ?_)
        refine lv_if_ne (tgt := 93) hx hb dX1_admit_24 (by decide) (fun c1 => ?_) (fun c1 => ?_)
        · skip
          have hsh := ite_t hsh c1
          exact Jk8_93 v_admitted_8 w_gains_8 H locs hP hD hS ls (lv_sub hl [0, 1, 2, 3, 4] rfl) hsh
        · skip
          have hsh := ite_f hsh (fun h => h c1)
          refine lv_aload_n hx hb dX1_admit_27 rfl (lv_at hl 0 rfl) ?_
          refine lv_dup hx hb dX1_admit_28 rfl ?_
          refine kget (ci := 1) S hK hP rfl inX1_admit_X1 0 rfl 0 (by decide) lkX1_admit_15 rfl dX1_admit_29 ?_
          refine lv_iload hx hb dX1_admit_32 (lv_at hl 4 rfl) ?_
          obtain ⟨o_34, he, hsh⟩ := bd hsh
          refine kSi S hK hA (ctX1_bit l D cI cJ cZ x4_8 o_34 he) noE_cl (va_cwS 1 hts gX1_admit_X1_bit rfl rfl rfl hdX1_bit ⟨Nat.le_of_ble_eq_true rfl, Nat.le_of_ble_eq_true rfl⟩) [] [0, 1, 2, 3, 4, 5, 6, 7, 8, 9, 10, 11] [0, 1, 2, 3, 4, 5, 6, 7, 8, 9, 10, 11] (ws' := (wdX1_admit cI cJ cZ q_this q_p1 q_p2 q_gains q_roads q_steps q_worths q_depths q_rivals q_order q_p1_rocks q_p1_people q_p1_badHoles q_p1_wellPipes q_p1_endAges q_p1_runAges q_p2_priors q_p2_chances q_p2_wet q_p2_barren q_p2_pipes v_admitted_8 v_made v_worth v_set v_pipes v_days v_stops v_p1_size v_p2_size w_gains_8 w_p1_rocks w_p1_people w_p1_badHoles w_p1_wellPipes w_p2_priors w_p2_chances w_p2_wet w_p2_barren)) ⟨rfl, rfl, rfl, rfl, rfl, rfl, rfl⟩ trivial rfl hl.1 rfl (Nat.le_of_ble_eq_true rfl) dX1_admit_34 hP hD hS (fun H locs hP hD hS => ?_)
          refine lv_ior hx hb dX1_admit_37 ?_
          refine kput (ci := 1) S hK hP hD hS rfl inX1_admit_X1 tyX1_ok nmX1 0 rfl 0 (by decide) lkX1_admit_15 rfl rfl rfl (Nat.le_of_ble_eq_true rfl) (ws' := (wdX1_admit cI cJ cZ q_this q_p1 q_p2 q_gains q_roads q_steps q_worths q_depths q_rivals q_order q_p1_rocks q_p1_people q_p1_badHoles q_p1_wellPipes q_p1_endAges q_p1_runAges q_p2_priors q_p2_chances q_p2_wet q_p2_barren q_p2_pipes (v_admitted_8 ||| o_34) v_made v_worth v_set v_pipes v_days v_stops v_p1_size v_p2_size w_gains_8 w_p1_rocks w_p1_people w_p1_badHoles w_p1_wellPipes w_p2_priors w_p2_chances w_p2_wet w_p2_barren)) rfl dX1_admit_38 (fun H locs hP hD hS => ?_)
          refine lv_iconst (v := (1 : Int32)) hx hb dX1_admit_41 (by decide) ?_
          refine lv_istore (lv' := [(5, .int (1 : Int32)), (0, .ref q_this), (1, .ref q_p1), (2, .ref q_p2), (3, .int a3), (4, .int x4_8)]) hx hb dX1_admit_42 hl (by decide) rfl (fun ls hl => ?_)
          obtain ⟨r_44, hl_44, hk_44⟩ := bd hsh
          obtain ⟨n_44, hn_44⟩ := lp_iff.mp hl_44
          have L_44 : ∀ (n : Nat) (x5_44 : Int32) (w_gains_44 : Nat → Int64) (H : Heap) (locs : List Loc), va_P D vwCl (wdX1_admit cI cJ cZ q_this q_p1 q_p2 q_gains q_roads q_steps q_worths q_depths q_rivals q_order q_p1_rocks q_p1_people q_p1_badHoles q_p1_wellPipes q_p1_endAges q_p1_runAges q_p2_priors q_p2_chances q_p2_wet q_p2_barren q_p2_pipes (v_admitted_8 ||| o_34) v_made v_worth v_set v_pipes v_days v_stops v_p1_size v_p2_size w_gains_44 w_p1_rocks w_p1_people w_p1_badHoles w_p1_wellPipes w_p2_priors w_p2_chances w_p2_wet w_p2_barren) H → va_D A (wdX1_admit cI cJ cZ q_this q_p1 q_p2 q_gains q_roads q_steps q_worths q_depths q_rivals q_order q_p1_rocks q_p1_people q_p1_badHoles q_p1_wellPipes q_p1_endAges q_p1_runAges q_p2_priors q_p2_chances q_p2_wet q_p2_barren q_p2_pipes (v_admitted_8 ||| o_34) v_made v_worth v_set v_pipes v_days v_stops v_p1_size v_p2_size w_gains_44 w_p1_rocks w_p1_people w_p1_badHoles w_p1_wellPipes w_p2_priors w_p2_chances w_p2_wet w_p2_barren) → va_S A s.heap H locs → ∀ ls : Array Slot, lv_has ls 8 [(0, .ref q_this), (1, .ref q_p1), (2, .ref q_p2), (3, .int a3), (4, .int x4_8), (5, .int x5_44)] → it (fun s : Int32 × (Nat → Int64) => shX1_admit_L44 w_p1_rocks w_p1_people w_p2_priors w_p2_chances w_p2_wet w_p2_barren x4_8 s.1 s.2) n (x5_44, w_gains_44) = some r_44 → W p l e rmX1_admit s m args below meth c H locs 0 0 Q (F0 m 44 ls []) := by
            intro n
            induction n with
            | zero => exact fun _ _ _ _ _ _ _ _ _ hi => it_0 hi
            | succ n ih_44 =>
              intro x5_44 w_gains_44 H locs hP hD hS ls hl hi
              obtain ⟨b_44, hsh, hB1_44, hB2_44⟩ := it_b hi
              replace hsh : shX1_admit_L44 w_p1_rocks w_p1_people w_p2_priors w_p2_chances w_p2_wet w_p2_barren x4_8 x5_44 w_gains_44 = some b_44 := hsh
              unfold shX1_admit_L44 at hsh
              refine lv_iload hx hb dX1_admit_44 (lv_at hl 5 rfl) ?_
              refine lv_iconst (v := (4 : Int32)) hx hb dX1_admit_46 (by decide) ?_
              refine lv_icmp_gt (tgt := 93) hx hb dX1_admit_47 (by decide) (fun c1 => ?_) (fun c1 => ?_)
              · skip
                have hsh := ite_t hsh c1
                have he := hB2_44 _ hsh
                rw [← he] at hk_44
                exact Jk8_93 (v_admitted_8 ||| o_34) w_gains_44 H locs hP hD hS ls (lv_sub hl [0, 1, 2, 3, 4] rfl) hk_44
              · skip
                have hsh := ite_f hsh c1
                refine lv_aload_n hx hb dX1_admit_50 rfl (lv_at hl 2 rfl) ?_
                refine lv_aload_n hx hb dX1_admit_51 rfl (lv_at hl 1 rfl) ?_
                refine lv_iload hx hb dX1_admit_52 (lv_at hl 4 rfl) ?_
                obtain ⟨o_54, he, hsh⟩ := bd hsh
                refine kVi (ci := 4) S hK hA (ctX4_rockOf l D cI cJ cZ q_p1 q_p1_rocks q_p1_people q_p1_badHoles q_p1_wellPipes q_p1_endAges q_p1_runAges v_p1_size w_p1_rocks x4_8 o_54 he) noE_cl (cwV 1 hts gX1_admit_X4_rockOf rfl rfl rfl hdX4_rockOf ⟨Nat.le_of_ble_eq_true rfl, Nat.le_of_ble_eq_true rfl⟩) rfl 0 rfl [2, 3] [0, 1, 4, 5, 6, 7, 8, 9, 10, 11] [0, 1, 10, 11, 2, 3, 4, 5, 6, 7, 8, 9] (ws' := (wdX1_admit cI cJ cZ q_this q_p1 q_p2 q_gains q_roads q_steps q_worths q_depths q_rivals q_order q_p1_rocks q_p1_people q_p1_badHoles q_p1_wellPipes q_p1_endAges q_p1_runAges q_p2_priors q_p2_chances q_p2_wet q_p2_barren q_p2_pipes (v_admitted_8 ||| o_34) v_made v_worth v_set v_pipes v_days v_stops v_p1_size v_p2_size w_gains_44 w_p1_rocks w_p1_people w_p1_badHoles w_p1_wellPipes w_p2_priors w_p2_chances w_p2_wet w_p2_barren)) ⟨rfl, rfl, rfl, rfl, rfl, rfl, rfl⟩ trivial rfl hl.1 rfl (Nat.le_of_ble_eq_true rfl) dX1_admit_54 hP hD hS (fun H locs hP hD hS => ?_)
                refine lv_iload hx hb dX1_admit_57 (lv_at hl 5 rfl) ?_
                obtain ⟨o_59, he, hsh⟩ := bd hsh
                refine kVi (ci := 2) S hK hA (ctX2_hopeOn l D cI cJ cZ q_p2 q_p2_priors q_p2_chances q_p2_wet q_p2_barren q_p2_pipes v_p2_size w_p2_priors w_p2_chances w_p2_wet w_p2_barren o_54 x5_44 o_59 he) noE_cl (cwV 2 hts gX1_admit_X2_hopeOn rfl rfl rfl hdX2_hopeOn ⟨Nat.le_of_ble_eq_true rfl, Nat.le_of_ble_eq_true rfl⟩) rfl 0 rfl [7, 8, 9, 10, 11] [0, 1, 2, 3, 4, 5, 6] [0, 1, 2, 3, 4, 5, 6, 7, 8, 9, 10, 11] (ws' := (wdX1_admit cI cJ cZ q_this q_p1 q_p2 q_gains q_roads q_steps q_worths q_depths q_rivals q_order q_p1_rocks q_p1_people q_p1_badHoles q_p1_wellPipes q_p1_endAges q_p1_runAges q_p2_priors q_p2_chances q_p2_wet q_p2_barren q_p2_pipes (v_admitted_8 ||| o_34) v_made v_worth v_set v_pipes v_days v_stops v_p1_size v_p2_size w_gains_44 w_p1_rocks w_p1_people w_p1_badHoles w_p1_wellPipes w_p2_priors w_p2_chances w_p2_wet w_p2_barren)) ⟨rfl, rfl, rfl, rfl, rfl, rfl, rfl⟩ trivial rfl hl.1 rfl (Nat.le_of_ble_eq_true rfl) dX1_admit_59 hP hD hS (fun H locs hP hD hS => ?_)
                refine lv_i2l hx hb dX1_admit_62 rfl ?_
                refine lv_lstore (lv' := [(6, .long (o_59).toInt64), (0, .ref q_this), (1, .ref q_p1), (2, .ref q_p2), (3, .int a3), (4, .int x4_8), (5, .int x5_44)]) hx hb dX1_admit_63 hl (by decide) rfl (fun ls hl => ?_)
                refine lv_aload_n hx hb dX1_admit_65 rfl (lv_at hl 1 rfl) ?_
                refine kget (ci := 1) S hK hP rfl inX1_admit_X1 0 rfl 1 (by decide) lkX1_admit_21 rfl dX1_admit_66 ?_
                refine lv_iload hx hb dX1_admit_69 (lv_at hl 5 rfl) ?_
                refine lv_iconst (v := (5 : Int32)) hx hb dX1_admit_71 (by decide) ?_
                refine lv_imul hx hb dX1_admit_72 ?_
                refine lv_iload hx hb dX1_admit_73 (lv_at hl 6 rfl) ?_
                refine lv_iadd hx hb dX1_admit_75 ?_
                refine lv_aload_n hx hb dX1_admit_76 rfl (lv_at hl 2 rfl) ?_
                refine lv_iload hx hb dX1_admit_77 (lv_at hl 5 rfl) ?_
                obtain ⟨o_79, he, hsh⟩ := bd hsh
                refine kVi (ci := 4) S hK hA (ctX4_peopleOf l D cI cJ cZ q_p1 q_p1_rocks q_p1_people q_p1_badHoles q_p1_wellPipes q_p1_endAges q_p1_runAges v_p1_size w_p1_people x4_8 o_79 he) noE_cl (cwV 1 hts gX1_admit_X4_peopleOf rfl rfl rfl hdX4_peopleOf ⟨Nat.le_of_ble_eq_true rfl, Nat.le_of_ble_eq_true rfl⟩) rfl 0 rfl [2, 4] [0, 1, 3, 5, 6, 7, 8, 9, 10, 11] [0, 1, 10, 2, 11, 3, 4, 5, 6, 7, 8, 9] (ws' := (wdX1_admit cI cJ cZ q_this q_p1 q_p2 q_gains q_roads q_steps q_worths q_depths q_rivals q_order q_p1_rocks q_p1_people q_p1_badHoles q_p1_wellPipes q_p1_endAges q_p1_runAges q_p2_priors q_p2_chances q_p2_wet q_p2_barren q_p2_pipes (v_admitted_8 ||| o_34) v_made v_worth v_set v_pipes v_days v_stops v_p1_size v_p2_size w_gains_44 w_p1_rocks w_p1_people w_p1_badHoles w_p1_wellPipes w_p2_priors w_p2_chances w_p2_wet w_p2_barren)) ⟨rfl, rfl, rfl, rfl, rfl, rfl, rfl⟩ trivial rfl hl.1 rfl (Nat.le_of_ble_eq_true rfl) dX1_admit_79 hP hD hS (fun H locs hP hD hS => ?_)
                refine lv_i2l hx hb dX1_admit_82 rfl ?_
                refine lv_lload hx hb dX1_admit_83 (lv_at hl 0 rfl) ?_
                refine lv_lmul hx hb dX1_admit_85 ?_
                obtain ⟨_, hg, hsh⟩ := bd hsh
                refine klas S hK hP hD hS 1 1 rfl rfl (gd_in hg) (ws' := (wdX1_admit cI cJ cZ q_this q_p1 q_p2 q_gains q_roads q_steps q_worths q_depths q_rivals q_order q_p1_rocks q_p1_people q_p1_badHoles q_p1_wellPipes q_p1_endAges q_p1_runAges q_p2_priors q_p2_chances q_p2_wet q_p2_barren q_p2_pipes (v_admitted_8 ||| o_34) v_made v_worth v_set v_pipes v_days v_stops v_p1_size v_p2_size (vp_updL w_gains_44 (((x4_8 * (5 : Int32)) + x5_44)).toNatClampNeg ((o_79).toInt64 * (o_59).toInt64)) w_p1_rocks w_p1_people w_p1_badHoles w_p1_wellPipes w_p2_priors w_p2_chances w_p2_wet w_p2_barren)) rfl dX1_admit_86 (fun H locs hP hD hS => ?_)
                refine lv_iinc (v := (x5_44 + (1 : Int32))) (lv' := [(5, .int (x5_44 + (1 : Int32))), (6, .long (o_59).toInt64), (0, .ref q_this), (1, .ref q_p1), (2, .ref q_p2), (3, .int a3), (4, .int x4_8)]) hx hb dX1_admit_87 hl (k := 6) rfl (congrArg (fun z : Int32 => x5_44 + z) (by decide)) (by decide) rfl (fun ls hl => ?_)
                refine lv_goto (tgt := 44) hx hb dX1_admit_90 (by decide) ?_
                exact ih_44 (x5_44 + (1 : Int32)) (vp_updL w_gains_44 (((x4_8 * (5 : Int32)) + x5_44)).toNatClampNeg ((o_79).toInt64 * (o_59).toInt64)) H locs hP hD hS ls (lv_sub hl [2, 3, 4, 5, 6, 0] rfl) (hB1_44 _ hsh)
          exact L_44 n_44 (1 : Int32) w_gains_8 H locs hP hD hS ls (lv_sub hl [1, 2, 3, 4, 5, 0] rfl) hn_44
  exact L_8 n_8 (1 : Int32) (0 : Int32) w_gains H locs hP hD hS ls (lv_sub hl [1, 2, 3, 4, 0] rfl) hn_8

/-! DryWells$Planner.stepDays -/
noncomputable def shX1_stepDays (a1 : Int32) (a2 : Int32) (w_p0_days : Nat → Int32) : Option (Int32) :=
  (if ¬ a1 = a2 then ((shX5_joins a1 a2 w_p0_days).bind fun o_10 => (if o_10 = 0 then some (1000 : Int32) else ((shX5_days a1 a2 w_p0_days).bind fun o_19 => some o_19))) else some (0 : Int32))
def wdX1_stepDays (cI cJ cZ : ClassId) (q_p0 q_p0_days : Nat) (w_p0_days : Nat → Int32) : va_W := [(q_p0, .inr (5, [.ref q_p0_days])), (q_p0_days, .inl (cI, 64, .inl w_p0_days))]
abbrev rmX1_stepDays : Room := { frames := 1, cells := 0, slots := 0, locals := 22 }
theorem inX1_stepDays_X5 : ∀ w ∈ u_ws RX5 TX5 1, w ∈ wsX1_stepDays := fun _ h => List.mem_cons_of_mem _ (List.mem_append_right _ h)
theorem hdX1_stepDays : yX1_stepDays.cls ≠ "java/lang/invoke/MethodHandle" ∧ yX1_stepDays.cls ≠ "java/lang/invoke/VarHandle" ∧ (parseMethodDescriptor yX1_stepDays.desc).map (fun d => d.parameters.length) = some 3 := by decide +kernel
set_option maxHeartbeats 4000000 in
set_option maxRecDepth 100000 in
theorem ctX1_stepDays (l : Launch) (D : va_G) (cI cJ cZ : ClassId) (q_p0 q_p0_days : Nat) (w_p0_days : Nat → Int32) (a1 : Int32) (a2 : Int32) (o : Int32) (hsh : shX1_stepDays a1 a2 w_p0_days = some o) : CtI l yX1_stepDays wsX1_stepDays rmX1_stepDays D (tys3 cI cJ cZ) noE (wdX1_stepDays cI cJ cZ q_p0 q_p0_days w_p0_days) [.ref q_p0, .int a1, .int a2] o (wdX1_stepDays cI cJ cZ q_p0 q_p0_days w_p0_days) := by
  refine ctI plX1 rfl (Nat.le_of_ble_eq_true rfl) ?_
  intro p e s m below meth c A Q S hK hA hE hret H locs hP hD hS ls hl
  replace S : CallFix p m c cX1_stepDays 3 s _ wsX1_stepDays RX1 := S
  generalize ([.ref q_p0, .int a1, .int a2] : List Value).toArray = args at S hret ⊢
  obtain ⟨hx, hb, hml, hown, hts⟩ := id S
  replace hl : lv_has ls 3 [(0, .ref q_p0), (1, .int a1), (2, .int a2)] := hl
  unfold shX1_stepDays at hsh
  refine lv_iload_n hx hb dX1_stepDays_0 rfl (lv_at hl 1 rfl) ?_
  refine lv_iload_n hx hb dX1_stepDays_1 rfl (lv_at hl 2 rfl) ?_
  refine lv_icmp_ne (tgt := 7) hx hb dX1_stepDays_2 (by decide) (fun c1 => ?_) (fun c1 => ?_)
  · skip
    have hsh := ite_t hsh c1
    refine lv_aload_n hx hb dX1_stepDays_7 rfl (lv_at hl 0 rfl) ?_
    refine lv_iload_n hx hb dX1_stepDays_8 rfl (lv_at hl 1 rfl) ?_
    refine lv_iload_n hx hb dX1_stepDays_9 rfl (lv_at hl 2 rfl) ?_
    obtain ⟨o_10, he, hsh⟩ := bd hsh
    refine kVi (ci := 5) S hK hA (ctX5_joins l D cI cJ cZ q_p0 q_p0_days w_p0_days a1 a2 o_10 he) noE_cl (cwV 2 hts gX1_stepDays_X5_joins rfl rfl rfl hdX5_joins ⟨Nat.le_of_ble_eq_true rfl, Nat.le_of_ble_eq_true rfl⟩) rfl 0 rfl [0, 1] [] [0, 1] (ws' := (wdX1_stepDays cI cJ cZ q_p0 q_p0_days w_p0_days)) ⟨rfl, rfl, rfl, rfl, rfl, rfl, rfl⟩ trivial rfl hl.1 rfl (Nat.le_of_ble_eq_true rfl) dX1_stepDays_10 hP hD hS (fun H locs hP hD hS => ?_)
    refine lv_if_eq (tgt := 25) hx hb dX1_stepDays_13 (by decide) (fun c1 => ?_) (fun c1 => ?_)
    · skip
      have hsh := ite_t hsh c1
      refine lv_sipush (v := (1000 : Int32)) hx hb dX1_stepDays_25 (by decide) ?_
      have ho := Option.some.inj hsh
      rw [← ho] at hret
      exact hret _ _ _ _ dX1_stepDays_28 hP hD hS
    · skip
      have hsh := ite_f hsh c1
      refine lv_aload_n hx hb dX1_stepDays_16 rfl (lv_at hl 0 rfl) ?_
      refine lv_iload_n hx hb dX1_stepDays_17 rfl (lv_at hl 1 rfl) ?_
      refine lv_iload_n hx hb dX1_stepDays_18 rfl (lv_at hl 2 rfl) ?_
      obtain ⟨o_19, he, hsh⟩ := bd hsh
      refine kVi (ci := 5) S hK hA (ctX5_days l D cI cJ cZ q_p0 q_p0_days w_p0_days a1 a2 o_19 he) noE_cl (cwV 2 hts gX1_stepDays_X5_days rfl rfl rfl hdX5_days ⟨Nat.le_of_ble_eq_true rfl, Nat.le_of_ble_eq_true rfl⟩) rfl 0 rfl [0, 1] [] [0, 1] (ws' := (wdX1_stepDays cI cJ cZ q_p0 q_p0_days w_p0_days)) ⟨rfl, rfl, rfl, rfl, rfl, rfl, rfl⟩ trivial rfl hl.1 rfl (Nat.le_of_ble_eq_true rfl) dX1_stepDays_19 hP hD hS (fun H locs hP hD hS => ?_)
      refine lv_goto (tgt := 28) hx hb dX1_stepDays_22 (by decide) ?_
      have ho := Option.some.inj hsh
      rw [← ho] at hret
      exact hret _ _ _ _ dX1_stepDays_28 hP hD hS
  · skip
    have hsh := ite_f hsh (fun h => h c1)
    refine lv_iconst (v := (0 : Int32)) hx hb dX1_stepDays_5 (by decide) ?_
    have ho := Option.some.inj hsh
    rw [← ho] at hret
    exact hret _ _ _ _ dX1_stepDays_6 hP hD hS

/-! DryWells$Planner.isAdmitted -/
noncomputable def shX1_isAdmitted (a1 : Int32) (v_admitted : Int32) : Option (Int32) :=
  (if ¬ (a1 &&& (v_admitted ^^^ (-1 : Int32))) = 0 then some (0 : Int32) else some (1 : Int32))
def wdX1_isAdmitted (cI cJ cZ : ClassId) (q_this q_gains q_roads q_steps q_worths q_depths q_rivals q_order : Nat) (v_admitted : Int32) (v_made : Int32) (v_worth : Int64) (v_set : Int32) (v_pipes : Int32) (v_days : Int32) (v_stops : Int32) : va_W := [(q_this, .inr (1, [.int v_admitted, .ref q_gains, .ref q_roads, .ref q_steps, .ref q_worths, .int v_made, .long v_worth, .int v_set, .int v_pipes, .int v_days, .int v_stops, .ref q_depths, .ref q_rivals, .ref q_order]))]
abbrev rmX1_isAdmitted : Room := { frames := 0, cells := 0, slots := 0, locals := 0 }
theorem inX1_isAdmitted_X1 : ∀ w ∈ u_ws RX1 TX1 14, w ∈ wsX1_isAdmitted := fun _ h => List.mem_cons_of_mem _ (List.mem_append_right _ h)
theorem lkX1_isAdmitted_15 : Cond.fieldLink RX1 15 (TX1 0).1 (TX1 0).2.1 (TX1 0).2.2.1 ∈ wsX1_isAdmitted := List.mem_of_getElem? (i := 1) rfl
theorem hdX1_isAdmitted : yX1_isAdmitted.cls = RX1 ∧ yX1_isAdmitted.cls ≠ "java/lang/invoke/MethodHandle" ∧ yX1_isAdmitted.cls ≠ "java/lang/invoke/VarHandle" ∧ (parseMethodDescriptor yX1_isAdmitted.desc).map (fun d => d.parameters.length) = some 1 := by decide +kernel
set_option maxHeartbeats 4000000 in
set_option maxRecDepth 100000 in
theorem ctX1_isAdmitted (l : Launch) (D : va_G) (cI cJ cZ : ClassId) (q_this q_gains q_roads q_steps q_worths q_depths q_rivals q_order : Nat) (v_admitted : Int32) (v_made : Int32) (v_worth : Int64) (v_set : Int32) (v_pipes : Int32) (v_days : Int32) (v_stops : Int32) (a1 : Int32) (o : Int32) (hsh : shX1_isAdmitted a1 v_admitted = some o) : CtI l yX1_isAdmitted wsX1_isAdmitted rmX1_isAdmitted D (tys3 cI cJ cZ) noE (wdX1_isAdmitted cI cJ cZ q_this q_gains q_roads q_steps q_worths q_depths q_rivals q_order v_admitted v_made v_worth v_set v_pipes v_days v_stops) [.ref q_this, .int a1] o (wdX1_isAdmitted cI cJ cZ q_this q_gains q_roads q_steps q_worths q_depths q_rivals q_order v_admitted v_made v_worth v_set v_pipes v_days v_stops) := by
  refine ctZ plX1 rfl (Nat.le_of_ble_eq_true rfl) ?_
  intro p e s m below meth c A Q S hK hA hE hret H locs hP hD hS ls hl
  replace S : CallFix p m c cX1_isAdmitted 2 s _ wsX1_isAdmitted RX1 := S
  generalize ([.ref q_this, .int a1] : List Value).toArray = args at S hret ⊢
  obtain ⟨hx, hb, hml, hown, hts⟩ := id S
  replace hl : lv_has ls 2 [(0, .ref q_this), (1, .int a1)] := hl
  unfold shX1_isAdmitted at hsh
  refine lv_iload_n hx hb dX1_isAdmitted_0 rfl (lv_at hl 1 rfl) ?_
  refine lv_aload_n hx hb dX1_isAdmitted_1 rfl (lv_at hl 0 rfl) ?_
  refine kget (ci := 1) S hK hP rfl inX1_isAdmitted_X1 0 rfl 0 (by decide) lkX1_isAdmitted_15 rfl dX1_isAdmitted_2 ?_
  refine lv_iconst (v := (-1 : Int32)) hx hb dX1_isAdmitted_5 (by decide) ?_
  refine lv_ixor hx hb dX1_isAdmitted_6 ?_
  refine lv_iand hx hb dX1_isAdmitted_7 ?_
  refine lv_if_ne (tgt := 15) hx hb dX1_isAdmitted_8 (by decide) (fun c1 => ?_) (fun c1 => ?_)
  · skip
    have hsh := ite_t hsh c1
    refine lv_iconst (v := (0 : Int32)) hx hb dX1_isAdmitted_15 (by decide) ?_
    have ho := Option.some.inj hsh
    rw [← ho] at hret
    exact hret _ _ _ _ nar0 dX1_isAdmitted_16 hP hD hS
  · skip
    have hsh := ite_f hsh (fun h => h c1)
    refine lv_iconst (v := (1 : Int32)) hx hb dX1_isAdmitted_11 (by decide) ?_
    refine lv_goto (tgt := 16) hx hb dX1_isAdmitted_12 (by decide) ?_
    have ho := Option.some.inj hsh
    rw [← ho] at hret
    exact hret _ _ _ _ nar1 dX1_isAdmitted_16 hP hD hS

/-! DryWells$Planner.roadBy -/
noncomputable def shX1_roadBy (a1 : Int32) (a2 : Int32) (a3 : Int32) (w_roads : Nat → Int32) (w_steps : Nat → Int32) : Option (Int32) :=
  ((gd ((a2 * (8 : Int32)) + a3) 64).bind fun _ => ((shX1_bit a3).bind fun o_17 => ((gd (((a1 &&& (o_17 ^^^ (-1 : Int32))) * (8 : Int32)) + a3) 1024).bind fun _ => some ((w_steps (((a2 * (8 : Int32)) + a3)).toNatClampNeg) + (w_roads ((((a1 &&& (o_17 ^^^ (-1 : Int32))) * (8 : Int32)) + a3)).toNatClampNeg)))))
def wdX1_roadBy (cI cJ cZ : ClassId) (q_this q_gains q_roads q_steps q_worths q_depths q_rivals q_order : Nat) (v_admitted : Int32) (v_made : Int32) (v_worth : Int64) (v_set : Int32) (v_pipes : Int32) (v_days : Int32) (v_stops : Int32) (w_roads : Nat → Int32) (w_steps : Nat → Int32) : va_W := [(q_this, .inr (1, [.int v_admitted, .ref q_gains, .ref q_roads, .ref q_steps, .ref q_worths, .int v_made, .long v_worth, .int v_set, .int v_pipes, .int v_days, .int v_stops, .ref q_depths, .ref q_rivals, .ref q_order])), (q_roads, .inl (cI, 1024, .inl w_roads)), (q_steps, .inl (cI, 64, .inl w_steps))]
abbrev rmX1_roadBy : Room := { frames := 1, cells := 0, slots := 0, locals := 20 }
theorem inX1_roadBy_X1 : ∀ w ∈ u_ws RX1 TX1 14, w ∈ wsX1_roadBy := fun _ h => List.mem_cons_of_mem _ (List.mem_append_right _ h)
theorem lkX1_roadBy_29 : Cond.fieldLink RX1 29 (TX1 3).1 (TX1 3).2.1 (TX1 3).2.2.1 ∈ wsX1_roadBy := List.mem_of_getElem? (i := 1) rfl
theorem lkX1_roadBy_25 : Cond.fieldLink RX1 25 (TX1 2).1 (TX1 2).2.1 (TX1 2).2.2.1 ∈ wsX1_roadBy := List.mem_of_getElem? (i := 2) rfl
theorem hdX1_roadBy : yX1_roadBy.cls = RX1 ∧ yX1_roadBy.cls ≠ "java/lang/invoke/MethodHandle" ∧ yX1_roadBy.cls ≠ "java/lang/invoke/VarHandle" ∧ (parseMethodDescriptor yX1_roadBy.desc).map (fun d => d.parameters.length) = some 3 := by decide +kernel
set_option maxHeartbeats 4000000 in
set_option maxRecDepth 100000 in
theorem ctX1_roadBy (l : Launch) (D : va_G) (cI cJ cZ : ClassId) (q_this q_gains q_roads q_steps q_worths q_depths q_rivals q_order : Nat) (v_admitted : Int32) (v_made : Int32) (v_worth : Int64) (v_set : Int32) (v_pipes : Int32) (v_days : Int32) (v_stops : Int32) (w_roads : Nat → Int32) (w_steps : Nat → Int32) (a1 : Int32) (a2 : Int32) (a3 : Int32) (o : Int32) (hsh : shX1_roadBy a1 a2 a3 w_roads w_steps = some o) : CtI l yX1_roadBy wsX1_roadBy rmX1_roadBy D (tys3 cI cJ cZ) noE (wdX1_roadBy cI cJ cZ q_this q_gains q_roads q_steps q_worths q_depths q_rivals q_order v_admitted v_made v_worth v_set v_pipes v_days v_stops w_roads w_steps) [.ref q_this, .int a1, .int a2, .int a3] o (wdX1_roadBy cI cJ cZ q_this q_gains q_roads q_steps q_worths q_depths q_rivals q_order v_admitted v_made v_worth v_set v_pipes v_days v_stops w_roads w_steps) := by
  refine ctI plX1 rfl (Nat.le_of_ble_eq_true rfl) ?_
  intro p e s m below meth c A Q S hK hA hE hret H locs hP hD hS ls hl
  replace S : CallFix p m c cX1_roadBy 4 s _ wsX1_roadBy RX1 := S
  generalize ([.ref q_this, .int a1, .int a2, .int a3] : List Value).toArray = args at S hret ⊢
  obtain ⟨hx, hb, hml, hown, hts⟩ := id S
  replace hl : lv_has ls 4 [(0, .ref q_this), (1, .int a1), (2, .int a2), (3, .int a3)] := hl
  unfold shX1_roadBy at hsh
  refine lv_aload_n hx hb dX1_roadBy_0 rfl (lv_at hl 0 rfl) ?_
  refine kget (ci := 1) S hK hP rfl inX1_roadBy_X1 0 rfl 3 (by decide) lkX1_roadBy_29 rfl dX1_roadBy_1 ?_
  refine lv_iload_n hx hb dX1_roadBy_4 rfl (lv_at hl 2 rfl) ?_
  refine lv_bipush (v := (8 : Int32)) hx hb dX1_roadBy_5 (by decide) ?_
  refine lv_imul hx hb dX1_roadBy_7 ?_
  refine lv_iload_n hx hb dX1_roadBy_8 rfl (lv_at hl 3 rfl) ?_
  refine lv_iadd hx hb dX1_roadBy_9 ?_
  obtain ⟨_, hg, hsh⟩ := bd hsh
  refine kial S hK hP 2 0 rfl rfl (gd_in hg) dX1_roadBy_10 ?_
  refine lv_aload_n hx hb dX1_roadBy_11 rfl (lv_at hl 0 rfl) ?_
  refine kget (ci := 1) S hK hP rfl inX1_roadBy_X1 0 rfl 2 (by decide) lkX1_roadBy_25 rfl dX1_roadBy_12 ?_
  refine lv_iload_n hx hb dX1_roadBy_15 rfl (lv_at hl 1 rfl) ?_
  refine lv_iload_n hx hb dX1_roadBy_16 rfl (lv_at hl 3 rfl) ?_
  obtain ⟨o_17, he, hsh⟩ := bd hsh
  refine kSi S hK hA (ctX1_bit l D cI cJ cZ a3 o_17 he) noE_cl (va_cwS 1 hts gX1_roadBy_X1_bit rfl rfl rfl hdX1_bit ⟨Nat.le_of_ble_eq_true rfl, Nat.le_of_ble_eq_true rfl⟩) [] [0, 1, 2] [0, 1, 2] (ws' := (wdX1_roadBy cI cJ cZ q_this q_gains q_roads q_steps q_worths q_depths q_rivals q_order v_admitted v_made v_worth v_set v_pipes v_days v_stops w_roads w_steps)) ⟨rfl, rfl, rfl, rfl, rfl, rfl, rfl⟩ trivial rfl hl.1 rfl (Nat.le_of_ble_eq_true rfl) dX1_roadBy_17 hP hD hS (fun H locs hP hD hS => ?_)
  refine lv_iconst (v := (-1 : Int32)) hx hb dX1_roadBy_20 (by decide) ?_
  refine lv_ixor hx hb dX1_roadBy_21 ?_
  refine lv_iand hx hb dX1_roadBy_22 ?_
  refine lv_bipush (v := (8 : Int32)) hx hb dX1_roadBy_23 (by decide) ?_
  refine lv_imul hx hb dX1_roadBy_25 ?_
  refine lv_iload_n hx hb dX1_roadBy_26 rfl (lv_at hl 3 rfl) ?_
  refine lv_iadd hx hb dX1_roadBy_27 ?_
  obtain ⟨_, hg, hsh⟩ := bd hsh
  refine kial S hK hP 1 0 rfl rfl (gd_in hg) dX1_roadBy_28 ?_
  refine lv_iadd hx hb dX1_roadBy_29 ?_
  have ho := Option.some.inj hsh
  rw [← ho] at hret
  exact hret _ _ _ _ dX1_roadBy_30 hP hD hS

/-! DryWells$Planner.shortest -/
noncomputable def shX1_shortest_j_45 (x4_j_45 : Int32) : Option (Int32) :=
  some x4_j_45
noncomputable def shX1_shortest_k8_39 (x5_8 : Int32) (x4_k8_39 : Int32) : Option ((Int32 × Int32) ⊕ ((Int32))) :=
  some (Sum.inl (x4_k8_39, (x5_8 + (1 : Int32))))
noncomputable def shX1_shortest_L8 (a1 : Int32) (a2 : Int32) (a3 : Int32) (w_roads : Nat → Int32) (w_steps : Nat → Int32) (x4_8 : Int32) (x5_8 : Int32) : Option ((Int32 × Int32) ⊕ ((Int32))) :=
  (if a3 < x5_8 then some (Sum.inr x4_8) else ((shX1_bit x5_8).bind fun o_17 => (if (a1 &&& o_17) = 0 then (shX1_shortest_k8_39 x5_8 x4_8) else ((shX1_roadBy a1 a2 x5_8 w_roads w_steps).bind fun o_31 => (shX1_shortest_k8_39 x5_8 (if o_31 < x4_8 then o_31 else x4_8))))))
noncomputable def shX1_shortest (a1 : Int32) (a2 : Int32) (a3 : Int32) (w_roads : Nat → Int32) (w_steps : Nat → Int32) : Option (Int32) :=
  ((lp (fun s : Int32 × Int32 => shX1_shortest_L8 a1 a2 a3 w_roads w_steps s.1 s.2) ((1000 : Int32), (1 : Int32))).bind (fun p : Int32 => shX1_shortest_j_45 p))
def wdX1_shortest (cI cJ cZ : ClassId) (q_this q_gains q_roads q_steps q_worths q_depths q_rivals q_order : Nat) (v_admitted : Int32) (v_made : Int32) (v_worth : Int64) (v_set : Int32) (v_pipes : Int32) (v_days : Int32) (v_stops : Int32) (w_roads : Nat → Int32) (w_steps : Nat → Int32) : va_W := [(q_this, .inr (1, [.int v_admitted, .ref q_gains, .ref q_roads, .ref q_steps, .ref q_worths, .int v_made, .long v_worth, .int v_set, .int v_pipes, .int v_days, .int v_stops, .ref q_depths, .ref q_rivals, .ref q_order])), (q_roads, .inl (cI, 1024, .inl w_roads)), (q_steps, .inl (cI, 64, .inl w_steps))]
abbrev rmX1_shortest : Room := { frames := 2, cells := 0, slots := 0, locals := 43 }
theorem inX1_shortest_X1 : ∀ w ∈ u_ws RX1 TX1 14, w ∈ wsX1_shortest := fun _ h => List.mem_cons_of_mem _ (List.mem_append_right _ h)
theorem hdX1_shortest : yX1_shortest.cls = RX1 ∧ yX1_shortest.cls ≠ "java/lang/invoke/MethodHandle" ∧ yX1_shortest.cls ≠ "java/lang/invoke/VarHandle" ∧ (parseMethodDescriptor yX1_shortest.desc).map (fun d => d.parameters.length) = some 3 := by decide +kernel
set_option maxHeartbeats 4000000 in
set_option maxRecDepth 100000 in
theorem ctX1_shortest (l : Launch) (D : va_G) (cI cJ cZ : ClassId) (q_this q_gains q_roads q_steps q_worths q_depths q_rivals q_order : Nat) (v_admitted : Int32) (v_made : Int32) (v_worth : Int64) (v_set : Int32) (v_pipes : Int32) (v_days : Int32) (v_stops : Int32) (w_roads : Nat → Int32) (w_steps : Nat → Int32) (a1 : Int32) (a2 : Int32) (a3 : Int32) (o : Int32) (hsh : shX1_shortest a1 a2 a3 w_roads w_steps = some o) : CtI l yX1_shortest wsX1_shortest rmX1_shortest D (tys3 cI cJ cZ) noE (wdX1_shortest cI cJ cZ q_this q_gains q_roads q_steps q_worths q_depths q_rivals q_order v_admitted v_made v_worth v_set v_pipes v_days v_stops w_roads w_steps) [.ref q_this, .int a1, .int a2, .int a3] o (wdX1_shortest cI cJ cZ q_this q_gains q_roads q_steps q_worths q_depths q_rivals q_order v_admitted v_made v_worth v_set v_pipes v_days v_stops w_roads w_steps) := by
  refine ctI plX1 rfl (Nat.le_of_ble_eq_true rfl) ?_
  intro p e s m below meth c A Q S hK hA hE hret H locs hP hD hS ls hl
  replace S : CallFix p m c cX1_shortest 6 s _ wsX1_shortest RX1 := S
  generalize ([.ref q_this, .int a1, .int a2, .int a3] : List Value).toArray = args at S hret ⊢
  obtain ⟨hx, hb, hml, hown, hts⟩ := id S
  replace hl : lv_has ls 6 [(0, .ref q_this), (1, .int a1), (2, .int a2), (3, .int a3)] := hl
  unfold shX1_shortest at hsh
  have Jj_45 : ∀ (x4_j_45 : Int32) (H : Heap) (locs : List Loc), va_P D vwCl (wdX1_shortest cI cJ cZ q_this q_gains q_roads q_steps q_worths q_depths q_rivals q_order v_admitted v_made v_worth v_set v_pipes v_days v_stops w_roads w_steps) H → va_D A (wdX1_shortest cI cJ cZ q_this q_gains q_roads q_steps q_worths q_depths q_rivals q_order v_admitted v_made v_worth v_set v_pipes v_days v_stops w_roads w_steps) → va_S A s.heap H locs → ∀ ls : Array Slot, lv_has ls 6 [(4, .int x4_j_45)] → shX1_shortest_j_45 x4_j_45 = some o → W p l e rmX1_shortest s m args below meth c H locs 0 0 Q (F0 m 45 ls []) := by
    intro x4_j_45 H locs hP hD hS ls hl hsh
    unfold shX1_shortest_j_45 at hsh
    refine lv_iload hx hb dX1_shortest_45 (lv_at hl 0 rfl) ?_
    have ho := Option.some.inj hsh
    rw [← ho] at hret
    exact hret _ _ _ _ dX1_shortest_47 hP hD hS
  refine lv_sipush (v := (1000 : Int32)) hx hb dX1_shortest_0 (by decide) ?_
  refine lv_istore (lv' := [(4, .int (1000 : Int32)), (0, .ref q_this), (1, .int a1), (2, .int a2), (3, .int a3)]) hx hb dX1_shortest_3 hl (by decide) rfl (fun ls hl => ?_)
  refine lv_iconst (v := (1 : Int32)) hx hb dX1_shortest_5 (by decide) ?_
  refine lv_istore (lv' := [(5, .int (1 : Int32)), (4, .int (1000 : Int32)), (0, .ref q_this), (1, .int a1), (2, .int a2), (3, .int a3)]) hx hb dX1_shortest_6 hl (by decide) rfl (fun ls hl => ?_)
  obtain ⟨r_8, hl_8, hk_8⟩ := bd hsh
  obtain ⟨n_8, hn_8⟩ := lp_iff.mp hl_8
  have L_8 : ∀ (n : Nat) (x4_8 : Int32) (x5_8 : Int32) (H : Heap) (locs : List Loc), va_P D vwCl (wdX1_shortest cI cJ cZ q_this q_gains q_roads q_steps q_worths q_depths q_rivals q_order v_admitted v_made v_worth v_set v_pipes v_days v_stops w_roads w_steps) H → va_D A (wdX1_shortest cI cJ cZ q_this q_gains q_roads q_steps q_worths q_depths q_rivals q_order v_admitted v_made v_worth v_set v_pipes v_days v_stops w_roads w_steps) → va_S A s.heap H locs → ∀ ls : Array Slot, lv_has ls 6 [(0, .ref q_this), (1, .int a1), (2, .int a2), (3, .int a3), (4, .int x4_8), (5, .int x5_8)] → it (fun s : Int32 × Int32 => shX1_shortest_L8 a1 a2 a3 w_roads w_steps s.1 s.2) n (x4_8, x5_8) = some r_8 → W p l e rmX1_shortest s m args below meth c H locs 0 0 Q (F0 m 8 ls []) := by
    intro n
    induction n with
    | zero => exact fun _ _ _ _ _ _ _ _ _ hi => it_0 hi
    | succ n ih_8 =>
      intro x4_8 x5_8 H locs hP hD hS ls hl hi
      obtain ⟨b_8, hsh, hB1_8, hB2_8⟩ := it_b hi
      replace hsh : shX1_shortest_L8 a1 a2 a3 w_roads w_steps x4_8 x5_8 = some b_8 := hsh
      unfold shX1_shortest_L8 at hsh
      have Jk8_39 : ∀ (x4_k8_39 : Int32) (H : Heap) (locs : List Loc), va_P D vwCl (wdX1_shortest cI cJ cZ q_this q_gains q_roads q_steps q_worths q_depths q_rivals q_order v_admitted v_made v_worth v_set v_pipes v_days v_stops w_roads w_steps) H → va_D A (wdX1_shortest cI cJ cZ q_this q_gains q_roads q_steps q_worths q_depths q_rivals q_order v_admitted v_made v_worth v_set v_pipes v_days v_stops w_roads w_steps) → va_S A s.heap H locs → ∀ ls : Array Slot, lv_has ls 6 [(0, .ref q_this), (1, .int a1), (2, .int a2), (3, .int a3), (4, .int x4_k8_39), (5, .int x5_8)] → shX1_shortest_k8_39 x5_8 x4_k8_39 = some b_8 → W p l e rmX1_shortest s m args below meth c H locs 0 0 Q (F0 m 39 ls []) := by
        intro x4_k8_39 H locs hP hD hS ls hl hsh
        unfold shX1_shortest_k8_39 at hsh
        refine lv_iinc (v := (x5_8 + (1 : Int32))) (lv' := [(5, .int (x5_8 + (1 : Int32))), (0, .ref q_this), (1, .int a1), (2, .int a2), (3, .int a3), (4, .int x4_k8_39)]) hx hb dX1_shortest_39 hl (k := 5) rfl (congrArg (fun z : Int32 => x5_8 + z) (by decide)) (by decide) rfl (fun ls hl => ?_)
        refine lv_goto (tgt := 8) hx hb dX1_shortest_42 (by decide) ?_
        exact ih_8 x4_k8_39 (x5_8 + (1 : Int32)) H locs hP hD hS ls (lv_sub hl [1, 2, 3, 4, 5, 0] rfl) (hB1_8 _ hsh)
      refine lv_iload hx hb dX1_shortest_8 (lv_at hl 5 rfl) ?_
      refine lv_iload_n hx hb dX1_shortest_10 rfl (lv_at hl 3 rfl) ?_
      refine lv_icmp_gt (tgt := 45) hx hb dX1_shortest_11 (by decide) (fun c1 => ?_) (fun c1 => ?_)
      · skip
        have hsh := ite_t hsh c1
        have he := hB2_8 _ hsh
        rw [← he] at hk_8
        exact Jj_45 x4_8 H locs hP hD hS ls (lv_sub hl [4] rfl) hk_8
      · skip
        have hsh := ite_f hsh c1
        refine lv_iload_n hx hb dX1_shortest_14 rfl (lv_at hl 1 rfl) ?_
        refine lv_iload hx hb dX1_shortest_15 (lv_at hl 5 rfl) ?_
        obtain ⟨o_17, he, hsh⟩ := bd hsh
        refine kSi S hK hA (ctX1_bit l D cI cJ cZ x5_8 o_17 he) noE_cl (va_cwS 1 hts gX1_shortest_X1_bit rfl rfl rfl hdX1_bit ⟨Nat.le_of_ble_eq_true rfl, Nat.le_of_ble_eq_true rfl⟩) [] [0, 1, 2] [0, 1, 2] (ws' := (wdX1_shortest cI cJ cZ q_this q_gains q_roads q_steps q_worths q_depths q_rivals q_order v_admitted v_made v_worth v_set v_pipes v_days v_stops w_roads w_steps)) ⟨rfl, rfl, rfl, rfl, rfl, rfl, rfl⟩ trivial rfl hl.1 rfl (Nat.le_of_ble_eq_true rfl) dX1_shortest_17 hP hD hS (fun H locs hP hD hS => ?_)
        refine lv_iand hx hb dX1_shortest_20 ?_
        refine lv_if_eq (tgt := 39) hx hb dX1_shortest_21 (by decide) (fun c1 => ?_) (fun c1 => ?_)
        · skip
          have hsh := ite_t hsh c1
          exact Jk8_39 x4_8 H locs hP hD hS ls (lv_sub hl [0, 1, 2, 3, 4, 5] rfl) hsh
        · skip
          have hsh := ite_f hsh c1
          refine lv_iload hx hb dX1_shortest_24 (lv_at hl 4 rfl) ?_
          refine lv_aload_n hx hb dX1_shortest_26 rfl (lv_at hl 0 rfl) ?_
          refine lv_iload_n hx hb dX1_shortest_27 rfl (lv_at hl 1 rfl) ?_
          refine lv_iload_n hx hb dX1_shortest_28 rfl (lv_at hl 2 rfl) ?_
          refine lv_iload hx hb dX1_shortest_29 (lv_at hl 5 rfl) ?_
          obtain ⟨o_31, he, hsh⟩ := bd hsh
          refine kVi (ci := 1) S hK hA (ctX1_roadBy l D cI cJ cZ q_this q_gains q_roads q_steps q_worths q_depths q_rivals q_order v_admitted v_made v_worth v_set v_pipes v_days v_stops w_roads w_steps a1 a2 x5_8 o_31 he) noE_cl (cwV 3 hts gX1_shortest_X1_roadBy rfl rfl rfl hdX1_roadBy ⟨Nat.le_of_ble_eq_true rfl, Nat.le_of_ble_eq_true rfl⟩) rfl 0 rfl [0, 1, 2] [] [0, 1, 2] (ws' := (wdX1_shortest cI cJ cZ q_this q_gains q_roads q_steps q_worths q_depths q_rivals q_order v_admitted v_made v_worth v_set v_pipes v_days v_stops w_roads w_steps)) ⟨rfl, rfl, rfl, rfl, rfl, rfl, rfl⟩ trivial rfl hl.1 rfl (Nat.le_of_ble_eq_true rfl) dX1_shortest_31 hP hD hS (fun H locs hP hD hS => ?_)
          refine va_mmin hx hb (S.2.2.1.trans hl.1.symm) hown (hts _ (List.mem_of_getElem? (i := 1) rfl)) (hts _ (List.mem_of_getElem? (i := 2) rfl)) (hts _ (List.mem_of_getElem? (i := 3) rfl)) (hts _ (List.mem_of_getElem? (i := 4) rfl)) (Nat.le_of_ble_eq_true rfl) (Nat.le_of_ble_eq_true rfl) (Nat.le_of_ble_eq_true rfl) (Nat.le_of_ble_eq_true rfl) dX1_shortest_34 ?_
          refine lv_istore (lv' := [(4, .int (if o_31 < x4_8 then o_31 else x4_8)), (0, .ref q_this), (1, .int a1), (2, .int a2), (3, .int a3), (5, .int x5_8)]) hx hb dX1_shortest_37 hl (by decide) rfl (fun ls hl => ?_)
          exact Jk8_39 (if o_31 < x4_8 then o_31 else x4_8) H locs hP hD hS ls (lv_sub hl [1, 2, 3, 4, 0, 5] rfl) hsh
  exact L_8 n_8 (1000 : Int32) (1 : Int32) H locs hP hD hS ls (lv_sub hl [2, 3, 4, 5, 1, 0] rfl) hn_8

/-! DryWells$Planner.measureSet -/
noncomputable def shX1_measureSet_j_31 (w_roads_j_31 : Nat → Int32) : Option ((Nat → Int32)) :=
  some w_roads_j_31
noncomputable def shX1_measureSet_L2 (a1 : Int32) (a2 : Int32) (w_steps : Nat → Int32) (x3_2 : Int32) (w_roads_2 : Nat → Int32) : Option ((Int32 × (Nat → Int32)) ⊕ (((Nat → Int32)))) :=
  (if a2 < x3_2 then some (Sum.inr w_roads_2) else ((shX1_shortest a1 x3_2 a2 w_roads_2 w_steps).bind fun o_21 => ((gd ((a1 * (8 : Int32)) + x3_2) 1024).bind fun _ => some (Sum.inl ((x3_2 + (1 : Int32)), (upd w_roads_2 (((a1 * (8 : Int32)) + x3_2)).toNatClampNeg o_21))))))
noncomputable def shX1_measureSet (a1 : Int32) (a2 : Int32) (w_roads : Nat → Int32) (w_steps : Nat → Int32) : Option ((Nat → Int32)) :=
  ((lp (fun s : Int32 × (Nat → Int32) => shX1_measureSet_L2 a1 a2 w_steps s.1 s.2) ((0 : Int32), w_roads)).bind (fun p : (Nat → Int32) => shX1_measureSet_j_31 p))
def wdX1_measureSet (cI cJ cZ : ClassId) (q_this q_gains q_roads q_steps q_worths q_depths q_rivals q_order : Nat) (v_admitted : Int32) (v_made : Int32) (v_worth : Int64) (v_set : Int32) (v_pipes : Int32) (v_days : Int32) (v_stops : Int32) (w_roads : Nat → Int32) (w_steps : Nat → Int32) : va_W := [(q_this, .inr (1, [.int v_admitted, .ref q_gains, .ref q_roads, .ref q_steps, .ref q_worths, .int v_made, .long v_worth, .int v_set, .int v_pipes, .int v_days, .int v_stops, .ref q_depths, .ref q_rivals, .ref q_order])), (q_roads, .inl (cI, 1024, .inl w_roads)), (q_steps, .inl (cI, 64, .inl w_steps))]
abbrev rmX1_measureSet : Room := { frames := 3, cells := 0, slots := 0, locals := 68 }
theorem inX1_measureSet_X1 : ∀ w ∈ u_ws RX1 TX1 14, w ∈ wsX1_measureSet := fun _ h => List.mem_cons_of_mem _ (List.mem_append_right _ h)
theorem lkX1_measureSet_25 : Cond.fieldLink RX1 25 (TX1 2).1 (TX1 2).2.1 (TX1 2).2.2.1 ∈ wsX1_measureSet := List.mem_of_getElem? (i := 1) rfl
theorem hdX1_measureSet : yX1_measureSet.cls = RX1 ∧ yX1_measureSet.cls ≠ "java/lang/invoke/MethodHandle" ∧ yX1_measureSet.cls ≠ "java/lang/invoke/VarHandle" ∧ (parseMethodDescriptor yX1_measureSet.desc).map (fun d => d.parameters.length) = some 2 := by decide +kernel
set_option maxHeartbeats 4000000 in
set_option maxRecDepth 100000 in
theorem ctX1_measureSet (l : Launch) (D : va_G) (cI cJ cZ : ClassId) (q_this q_gains q_roads q_steps q_worths q_depths q_rivals q_order : Nat) (v_admitted : Int32) (v_made : Int32) (v_worth : Int64) (v_set : Int32) (v_pipes : Int32) (v_days : Int32) (v_stops : Int32) (w_roads : Nat → Int32) (w_steps : Nat → Int32) (a1 : Int32) (a2 : Int32) (o : (Nat → Int32)) (hsh : shX1_measureSet a1 a2 w_roads w_steps = some o) : CtV l yX1_measureSet wsX1_measureSet rmX1_measureSet D (tys3 cI cJ cZ) noE (wdX1_measureSet cI cJ cZ q_this q_gains q_roads q_steps q_worths q_depths q_rivals q_order v_admitted v_made v_worth v_set v_pipes v_days v_stops w_roads w_steps) [.ref q_this, .int a1, .int a2]  (wdX1_measureSet cI cJ cZ q_this q_gains q_roads q_steps q_worths q_depths q_rivals q_order v_admitted v_made v_worth v_set v_pipes v_days v_stops o w_steps) := by
  refine ctV plX1 rfl (Nat.le_of_ble_eq_true rfl) ?_
  intro p e s m below meth c A Q S hK hA hE hret H locs hP hD hS ls hl
  replace S : CallFix p m c cX1_measureSet 4 s _ wsX1_measureSet RX1 := S
  generalize ([.ref q_this, .int a1, .int a2] : List Value).toArray = args at S hret ⊢
  obtain ⟨hx, hb, hml, hown, hts⟩ := id S
  replace hl : lv_has ls 4 [(0, .ref q_this), (1, .int a1), (2, .int a2)] := hl
  unfold shX1_measureSet at hsh
  have Jj_31 : ∀ (w_roads_j_31 : Nat → Int32) (H : Heap) (locs : List Loc), va_P D vwCl (wdX1_measureSet cI cJ cZ q_this q_gains q_roads q_steps q_worths q_depths q_rivals q_order v_admitted v_made v_worth v_set v_pipes v_days v_stops w_roads_j_31 w_steps) H → va_D A (wdX1_measureSet cI cJ cZ q_this q_gains q_roads q_steps q_worths q_depths q_rivals q_order v_admitted v_made v_worth v_set v_pipes v_days v_stops w_roads_j_31 w_steps) → va_S A s.heap H locs → ∀ ls : Array Slot, lv_has ls 4 [] → shX1_measureSet_j_31 w_roads_j_31 = some o → W p l e rmX1_measureSet s m args below meth c H locs 0 0 Q (F0 m 31 ls []) := by
    intro w_roads_j_31 H locs hP hD hS ls hl hsh
    unfold shX1_measureSet_j_31 at hsh
    have ho := Option.some.inj hsh
    rw [← ho] at hret
    exact hret _ _ _ _ dX1_measureSet_31 hP hD hS
  refine lv_iconst (v := (0 : Int32)) hx hb dX1_measureSet_0 (by decide) ?_
  refine lv_istore_n (lv' := [(3, .int (0 : Int32)), (0, .ref q_this), (1, .int a1), (2, .int a2)]) hx hb dX1_measureSet_1 rfl hl (by decide) rfl (fun ls hl => ?_)
  obtain ⟨r_2, hl_2, hk_2⟩ := bd hsh
  obtain ⟨n_2, hn_2⟩ := lp_iff.mp hl_2
  have L_2 : ∀ (n : Nat) (x3_2 : Int32) (w_roads_2 : Nat → Int32) (H : Heap) (locs : List Loc), va_P D vwCl (wdX1_measureSet cI cJ cZ q_this q_gains q_roads q_steps q_worths q_depths q_rivals q_order v_admitted v_made v_worth v_set v_pipes v_days v_stops w_roads_2 w_steps) H → va_D A (wdX1_measureSet cI cJ cZ q_this q_gains q_roads q_steps q_worths q_depths q_rivals q_order v_admitted v_made v_worth v_set v_pipes v_days v_stops w_roads_2 w_steps) → va_S A s.heap H locs → ∀ ls : Array Slot, lv_has ls 4 [(0, .ref q_this), (1, .int a1), (2, .int a2), (3, .int x3_2)] → it (fun s : Int32 × (Nat → Int32) => shX1_measureSet_L2 a1 a2 w_steps s.1 s.2) n (x3_2, w_roads_2) = some r_2 → W p l e rmX1_measureSet s m args below meth c H locs 0 0 Q (F0 m 2 ls []) := by
    intro n
    induction n with
    | zero => exact fun _ _ _ _ _ _ _ _ _ hi => it_0 hi
    | succ n ih_2 =>
      intro x3_2 w_roads_2 H locs hP hD hS ls hl hi
      obtain ⟨b_2, hsh, hB1_2, hB2_2⟩ := it_b hi
      replace hsh : shX1_measureSet_L2 a1 a2 w_steps x3_2 w_roads_2 = some b_2 := hsh
      unfold shX1_measureSet_L2 at hsh
      refine lv_iload_n hx hb dX1_measureSet_2 rfl (lv_at hl 3 rfl) ?_
      refine lv_iload_n hx hb dX1_measureSet_3 rfl (lv_at hl 2 rfl) ?_
      refine lv_icmp_gt (tgt := 31) hx hb dX1_measureSet_4 (by decide) (fun c1 => ?_) (fun c1 => ?_)
      · skip
        have hsh := ite_t hsh c1
        have he := hB2_2 _ hsh
        rw [← he] at hk_2
        exact Jj_31 w_roads_2 H locs hP hD hS ls (lv_sub hl [] rfl) hk_2
      · skip
        have hsh := ite_f hsh c1
        refine lv_aload_n hx hb dX1_measureSet_7 rfl (lv_at hl 0 rfl) ?_
        refine kget (ci := 1) S hK hP rfl inX1_measureSet_X1 0 rfl 2 (by decide) lkX1_measureSet_25 rfl dX1_measureSet_8 ?_
        refine lv_iload_n hx hb dX1_measureSet_11 rfl (lv_at hl 1 rfl) ?_
        refine lv_bipush (v := (8 : Int32)) hx hb dX1_measureSet_12 (by decide) ?_
        refine lv_imul hx hb dX1_measureSet_14 ?_
        refine lv_iload_n hx hb dX1_measureSet_15 rfl (lv_at hl 3 rfl) ?_
        refine lv_iadd hx hb dX1_measureSet_16 ?_
        refine lv_aload_n hx hb dX1_measureSet_17 rfl (lv_at hl 0 rfl) ?_
        refine lv_iload_n hx hb dX1_measureSet_18 rfl (lv_at hl 1 rfl) ?_
        refine lv_iload_n hx hb dX1_measureSet_19 rfl (lv_at hl 3 rfl) ?_
        refine lv_iload_n hx hb dX1_measureSet_20 rfl (lv_at hl 2 rfl) ?_
        obtain ⟨o_21, he, hsh⟩ := bd hsh
        refine kVi (ci := 1) S hK hA (ctX1_shortest l D cI cJ cZ q_this q_gains q_roads q_steps q_worths q_depths q_rivals q_order v_admitted v_made v_worth v_set v_pipes v_days v_stops w_roads_2 w_steps a1 x3_2 a2 o_21 he) noE_cl (cwV 3 hts gX1_measureSet_X1_shortest rfl rfl rfl hdX1_shortest ⟨Nat.le_of_ble_eq_true rfl, Nat.le_of_ble_eq_true rfl⟩) rfl 0 rfl [0, 1, 2] [] [0, 1, 2] (ws' := (wdX1_measureSet cI cJ cZ q_this q_gains q_roads q_steps q_worths q_depths q_rivals q_order v_admitted v_made v_worth v_set v_pipes v_days v_stops w_roads_2 w_steps)) ⟨rfl, rfl, rfl, rfl, rfl, rfl, rfl⟩ trivial rfl hl.1 rfl (Nat.le_of_ble_eq_true rfl) dX1_measureSet_21 hP hD hS (fun H locs hP hD hS => ?_)
        obtain ⟨_, hg, hsh⟩ := bd hsh
        refine kias S hK hP hD hS 1 0 rfl rfl (gd_in hg) (ws' := (wdX1_measureSet cI cJ cZ q_this q_gains q_roads q_steps q_worths q_depths q_rivals q_order v_admitted v_made v_worth v_set v_pipes v_days v_stops (upd w_roads_2 (((a1 * (8 : Int32)) + x3_2)).toNatClampNeg o_21) w_steps)) rfl dX1_measureSet_24 (fun H locs hP hD hS => ?_)
        refine lv_iinc (v := (x3_2 + (1 : Int32))) (lv' := [(3, .int (x3_2 + (1 : Int32))), (0, .ref q_this), (1, .int a1), (2, .int a2)]) hx hb dX1_measureSet_25 hl (k := 3) rfl (congrArg (fun z : Int32 => x3_2 + z) (by decide)) (by decide) rfl (fun ls hl => ?_)
        refine lv_goto (tgt := 2) hx hb dX1_measureSet_28 (by decide) ?_
        exact ih_2 (x3_2 + (1 : Int32)) (upd w_roads_2 (((a1 * (8 : Int32)) + x3_2)).toNatClampNeg o_21) H locs hP hD hS ls (lv_sub hl [1, 2, 3, 0] rfl) (hB1_2 _ hsh)
  exact L_2 n_2 (0 : Int32) w_roads H locs hP hD hS ls (lv_sub hl [1, 2, 3, 0] rfl) hn_2

/-! DryWells$Planner.measureWays -/
noncomputable def shX1_measureWays_j_84 (w_roads_j_84 : Nat → Int32) (w_steps_j_84 : Nat → Int32) : Option ((Nat → Int32) × (Nat → Int32)) :=
  some (w_roads_j_84, w_steps_j_84)
noncomputable def shX1_measureWays_k56_78 (x3_56 : Int32) (w_roads_k56_78 : Nat → Int32) : Option ((Int32 × (Nat → Int32)) ⊕ (((Nat → Int32)))) :=
  some (Sum.inl ((x3_56 + (1 : Int32)), w_roads_k56_78))
noncomputable def shX1_measureWays_L56 (a2 : Int32) (v_admitted : Int32) (w_steps_j_54 : Nat → Int32) (x3_56 : Int32) (w_roads_56 : Nat → Int32) : Option ((Int32 × (Nat → Int32)) ⊕ (((Nat → Int32)))) :=
  (if v_admitted < x3_56 then some (Sum.inr w_roads_56) else ((shX1_isAdmitted x3_56 v_admitted).bind fun o_66 => (if o_66 = 0 then (shX1_measureWays_k56_78 x3_56 w_roads_56) else ((shX1_measureSet x3_56 a2 w_roads_56 w_steps_j_54).bind fun o_75 => (shX1_measureWays_k56_78 x3_56 o_75)))))
noncomputable def shX1_measureWays_j_54 (a2 : Int32) (v_admitted : Int32) (w_roads_j_54 : Nat → Int32) (w_steps_j_54 : Nat → Int32) : Option ((Nat → Int32) × (Nat → Int32)) :=
  ((lp (fun s : Int32 × (Nat → Int32) => shX1_measureWays_L56 a2 v_admitted w_steps_j_54 s.1 s.2) ((1 : Int32), w_roads_j_54)).bind (fun p : (Nat → Int32) => shX1_measureWays_j_84 p w_steps_j_54))
noncomputable def shX1_measureWays_k2_41 (x3_2 : Int32) (w_roads_2 : Nat → Int32) (w_steps_k2_41 : Nat → Int32) : Option ((Int32 × (Nat → Int32) × (Nat → Int32)) ⊕ (((Nat → Int32) × (Nat → Int32)))) :=
  ((gd x3_2 1024).bind fun _ => some (Sum.inl ((x3_2 + (1 : Int32)), (upd w_roads_2 (x3_2).toNatClampNeg (0 : Int32)), w_steps_k2_41)))
noncomputable def shX1_measureWays_L10 (a2 : Int32) (w_p1_days : Nat → Int32) (x3_2 : Int32) (x4_10 : Int32) (w_steps_10 : Nat → Int32) : Option ((Int32 × (Nat → Int32)) ⊕ (((Nat → Int32)))) :=
  (if a2 < x4_10 then some (Sum.inr w_steps_10) else ((shX1_stepDays x3_2 x4_10 w_p1_days).bind fun o_31 => ((gd ((x3_2 * (8 : Int32)) + x4_10) 64).bind fun _ => some (Sum.inl ((x4_10 + (1 : Int32)), (upd w_steps_10 (((x3_2 * (8 : Int32)) + x4_10)).toNatClampNeg o_31))))))
noncomputable def shX1_measureWays_L2 (a2 : Int32) (w_p1_days : Nat → Int32) (x3_2 : Int32) (w_roads_2 : Nat → Int32) (w_steps_2 : Nat → Int32) : Option ((Int32 × (Nat → Int32) × (Nat → Int32)) ⊕ (((Nat → Int32) × (Nat → Int32)))) :=
  (if a2 < x3_2 then some (Sum.inr (w_roads_2, w_steps_2)) else ((lp (fun s : Int32 × (Nat → Int32) => shX1_measureWays_L10 a2 w_p1_days x3_2 s.1 s.2) ((0 : Int32), w_steps_2)).bind (fun p : (Nat → Int32) => shX1_measureWays_k2_41 x3_2 w_roads_2 p)))
noncomputable def shX1_measureWays (a2 : Int32) (v_admitted : Int32) (w_roads : Nat → Int32) (w_steps : Nat → Int32) (w_p1_days : Nat → Int32) : Option ((Nat → Int32) × (Nat → Int32)) :=
  ((lp (fun s : Int32 × (Nat → Int32) × (Nat → Int32) => shX1_measureWays_L2 a2 w_p1_days s.1 s.2.1 s.2.2) ((0 : Int32), w_roads, w_steps)).bind (fun p : (Nat → Int32) × (Nat → Int32) => shX1_measureWays_j_54 a2 v_admitted p.1 p.2))
def wdX1_measureWays (cI cJ cZ : ClassId) (q_this q_p1 q_gains q_roads q_steps q_worths q_depths q_rivals q_order q_p1_days : Nat) (v_admitted : Int32) (v_made : Int32) (v_worth : Int64) (v_set : Int32) (v_pipes : Int32) (v_days : Int32) (v_stops : Int32) (w_roads : Nat → Int32) (w_steps : Nat → Int32) (w_p1_days : Nat → Int32) : va_W := [(q_this, .inr (1, [.int v_admitted, .ref q_gains, .ref q_roads, .ref q_steps, .ref q_worths, .int v_made, .long v_worth, .int v_set, .int v_pipes, .int v_days, .int v_stops, .ref q_depths, .ref q_rivals, .ref q_order])), (q_roads, .inl (cI, 1024, .inl w_roads)), (q_steps, .inl (cI, 64, .inl w_steps)), (q_p1, .inr (5, [.ref q_p1_days])), (q_p1_days, .inl (cI, 64, .inl w_p1_days))]
abbrev rmX1_measureWays : Room := { frames := 4, cells := 0, slots := 0, locals := 91 }
theorem inX1_measureWays_X1 : ∀ w ∈ u_ws RX1 TX1 14, w ∈ wsX1_measureWays := fun _ h => List.mem_cons_of_mem _ (List.mem_append_left _ (List.mem_append_right _ h))
theorem inX1_measureWays_X5 : ∀ w ∈ u_ws RX5 TX5 1, w ∈ wsX1_measureWays := fun _ h => List.mem_cons_of_mem _ (List.mem_append_right _ h)
theorem lkX1_measureWays_15 : Cond.fieldLink RX1 15 (TX1 0).1 (TX1 0).2.1 (TX1 0).2.2.1 ∈ wsX1_measureWays := List.mem_of_getElem? (i := 3) rfl
theorem lkX1_measureWays_25 : Cond.fieldLink RX1 25 (TX1 2).1 (TX1 2).2.1 (TX1 2).2.2.1 ∈ wsX1_measureWays := List.mem_of_getElem? (i := 2) rfl
theorem lkX1_measureWays_29 : Cond.fieldLink RX1 29 (TX1 3).1 (TX1 3).2.1 (TX1 3).2.2.1 ∈ wsX1_measureWays := List.mem_of_getElem? (i := 1) rfl
theorem hdX1_measureWays : yX1_measureWays.cls = RX1 ∧ yX1_measureWays.cls ≠ "java/lang/invoke/MethodHandle" ∧ yX1_measureWays.cls ≠ "java/lang/invoke/VarHandle" ∧ (parseMethodDescriptor yX1_measureWays.desc).map (fun d => d.parameters.length) = some 2 := by decide +kernel
set_option maxHeartbeats 4000000 in
set_option maxRecDepth 100000 in
theorem ctX1_measureWays (l : Launch) (D : va_G) (cI cJ cZ : ClassId) (q_this q_p1 q_gains q_roads q_steps q_worths q_depths q_rivals q_order q_p1_days : Nat) (v_admitted : Int32) (v_made : Int32) (v_worth : Int64) (v_set : Int32) (v_pipes : Int32) (v_days : Int32) (v_stops : Int32) (w_roads : Nat → Int32) (w_steps : Nat → Int32) (w_p1_days : Nat → Int32) (a2 : Int32) (o : (Nat → Int32) × (Nat → Int32)) (hsh : shX1_measureWays a2 v_admitted w_roads w_steps w_p1_days = some o) : CtV l yX1_measureWays wsX1_measureWays rmX1_measureWays D (tys3 cI cJ cZ) noE (wdX1_measureWays cI cJ cZ q_this q_p1 q_gains q_roads q_steps q_worths q_depths q_rivals q_order q_p1_days v_admitted v_made v_worth v_set v_pipes v_days v_stops w_roads w_steps w_p1_days) [.ref q_this, .ref q_p1, .int a2]  (wdX1_measureWays cI cJ cZ q_this q_p1 q_gains q_roads q_steps q_worths q_depths q_rivals q_order q_p1_days v_admitted v_made v_worth v_set v_pipes v_days v_stops o.1 o.2 w_p1_days) := by
  refine ctV plX1 rfl (Nat.le_of_ble_eq_true rfl) ?_
  intro p e s m below meth c A Q S hK hA hE hret H locs hP hD hS ls hl
  replace S : CallFix p m c cX1_measureWays 5 s _ wsX1_measureWays RX1 := S
  generalize ([.ref q_this, .ref q_p1, .int a2] : List Value).toArray = args at S hret ⊢
  obtain ⟨hx, hb, hml, hown, hts⟩ := id S
  replace hl : lv_has ls 5 [(0, .ref q_this), (1, .ref q_p1), (2, .int a2)] := hl
  unfold shX1_measureWays at hsh
  have Jj_84 : ∀ (w_roads_j_84 : Nat → Int32) (w_steps_j_84 : Nat → Int32) (H : Heap) (locs : List Loc), va_P D vwCl (wdX1_measureWays cI cJ cZ q_this q_p1 q_gains q_roads q_steps q_worths q_depths q_rivals q_order q_p1_days v_admitted v_made v_worth v_set v_pipes v_days v_stops w_roads_j_84 w_steps_j_84 w_p1_days) H → va_D A (wdX1_measureWays cI cJ cZ q_this q_p1 q_gains q_roads q_steps q_worths q_depths q_rivals q_order q_p1_days v_admitted v_made v_worth v_set v_pipes v_days v_stops w_roads_j_84 w_steps_j_84 w_p1_days) → va_S A s.heap H locs → ∀ ls : Array Slot, lv_has ls 5 [] → shX1_measureWays_j_84 w_roads_j_84 w_steps_j_84 = some o → W p l e rmX1_measureWays s m args below meth c H locs 0 0 Q (F0 m 84 ls []) := by
    intro w_roads_j_84 w_steps_j_84 H locs hP hD hS ls hl hsh
    unfold shX1_measureWays_j_84 at hsh
    have ho := Option.some.inj hsh
    rw [← ho] at hret
    exact hret _ _ _ _ dX1_measureWays_84 hP hD hS
  have Jj_54 : ∀ (w_roads_j_54 : Nat → Int32) (w_steps_j_54 : Nat → Int32) (H : Heap) (locs : List Loc), va_P D vwCl (wdX1_measureWays cI cJ cZ q_this q_p1 q_gains q_roads q_steps q_worths q_depths q_rivals q_order q_p1_days v_admitted v_made v_worth v_set v_pipes v_days v_stops w_roads_j_54 w_steps_j_54 w_p1_days) H → va_D A (wdX1_measureWays cI cJ cZ q_this q_p1 q_gains q_roads q_steps q_worths q_depths q_rivals q_order q_p1_days v_admitted v_made v_worth v_set v_pipes v_days v_stops w_roads_j_54 w_steps_j_54 w_p1_days) → va_S A s.heap H locs → ∀ ls : Array Slot, lv_has ls 5 [(0, .ref q_this), (2, .int a2)] → shX1_measureWays_j_54 a2 v_admitted w_roads_j_54 w_steps_j_54 = some o → W p l e rmX1_measureWays s m args below meth c H locs 0 0 Q (F0 m 54 ls []) := by
    intro w_roads_j_54 w_steps_j_54 H locs hP hD hS ls hl hsh
    unfold shX1_measureWays_j_54 at hsh
    refine lv_iconst (v := (1 : Int32)) hx hb dX1_measureWays_54 (by decide) ?_
    refine lv_istore_n (lv' := [(3, .int (1 : Int32)), (0, .ref q_this), (2, .int a2)]) hx hb dX1_measureWays_55 rfl hl (by decide) rfl (fun ls hl => ?_)
    obtain ⟨r_56, hl_56, hk_56⟩ := bd hsh
    obtain ⟨n_56, hn_56⟩ := lp_iff.mp hl_56
    have L_56 : ∀ (n : Nat) (x3_56 : Int32) (w_roads_56 : Nat → Int32) (H : Heap) (locs : List Loc), va_P D vwCl (wdX1_measureWays cI cJ cZ q_this q_p1 q_gains q_roads q_steps q_worths q_depths q_rivals q_order q_p1_days v_admitted v_made v_worth v_set v_pipes v_days v_stops w_roads_56 w_steps_j_54 w_p1_days) H → va_D A (wdX1_measureWays cI cJ cZ q_this q_p1 q_gains q_roads q_steps q_worths q_depths q_rivals q_order q_p1_days v_admitted v_made v_worth v_set v_pipes v_days v_stops w_roads_56 w_steps_j_54 w_p1_days) → va_S A s.heap H locs → ∀ ls : Array Slot, lv_has ls 5 [(0, .ref q_this), (2, .int a2), (3, .int x3_56)] → it (fun s : Int32 × (Nat → Int32) => shX1_measureWays_L56 a2 v_admitted w_steps_j_54 s.1 s.2) n (x3_56, w_roads_56) = some r_56 → W p l e rmX1_measureWays s m args below meth c H locs 0 0 Q (F0 m 56 ls []) := by
      intro n
      induction n with
      | zero => exact fun _ _ _ _ _ _ _ _ _ hi => it_0 hi
      | succ n ih_56 =>
        intro x3_56 w_roads_56 H locs hP hD hS ls hl hi
        obtain ⟨b_56, hsh, hB1_56, hB2_56⟩ := it_b hi
        replace hsh : shX1_measureWays_L56 a2 v_admitted w_steps_j_54 x3_56 w_roads_56 = some b_56 := hsh
        unfold shX1_measureWays_L56 at hsh
        have Jk56_78 : ∀ (w_roads_k56_78 : Nat → Int32) (H : Heap) (locs : List Loc), va_P D vwCl (wdX1_measureWays cI cJ cZ q_this q_p1 q_gains q_roads q_steps q_worths q_depths q_rivals q_order q_p1_days v_admitted v_made v_worth v_set v_pipes v_days v_stops w_roads_k56_78 w_steps_j_54 w_p1_days) H → va_D A (wdX1_measureWays cI cJ cZ q_this q_p1 q_gains q_roads q_steps q_worths q_depths q_rivals q_order q_p1_days v_admitted v_made v_worth v_set v_pipes v_days v_stops w_roads_k56_78 w_steps_j_54 w_p1_days) → va_S A s.heap H locs → ∀ ls : Array Slot, lv_has ls 5 [(0, .ref q_this), (2, .int a2), (3, .int x3_56)] → shX1_measureWays_k56_78 x3_56 w_roads_k56_78 = some b_56 → W p l e rmX1_measureWays s m args below meth c H locs 0 0 Q (F0 m 78 ls []) := by
          intro w_roads_k56_78 H locs hP hD hS ls hl hsh
          unfold shX1_measureWays_k56_78 at hsh
          refine lv_iinc (v := (x3_56 + (1 : Int32))) (lv' := [(3, .int (x3_56 + (1 : Int32))), (0, .ref q_this), (2, .int a2)]) hx hb dX1_measureWays_78 hl (k := 2) rfl (congrArg (fun z : Int32 => x3_56 + z) (by decide)) (by decide) rfl (fun ls hl => ?_)
          refine lv_goto (tgt := 56) hx hb dX1_measureWays_81 (by decide) ?_
          exact ih_56 (x3_56 + (1 : Int32)) w_roads_k56_78 H locs hP hD hS ls (lv_sub hl [1, 2, 0] rfl) (hB1_56 _ hsh)
        refine lv_iload_n hx hb dX1_measureWays_56 rfl (lv_at hl 2 rfl) ?_
        refine lv_aload_n hx hb dX1_measureWays_57 rfl (lv_at hl 0 rfl) ?_
        refine kget (ci := 1) S hK hP rfl inX1_measureWays_X1 0 rfl 0 (by decide) lkX1_measureWays_15 rfl dX1_measureWays_58 ?_
        refine lv_icmp_gt (tgt := 84) hx hb dX1_measureWays_61 (by decide) (fun c1 => ?_) (fun c1 => ?_)
        · skip
          have hsh := ite_t hsh c1
          have he := hB2_56 _ hsh
          rw [← he] at hk_56
          exact Jj_84 w_roads_56 w_steps_j_54 H locs hP hD hS ls (lv_sub hl [] rfl) hk_56
        · skip
          have hsh := ite_f hsh c1
          refine lv_aload_n hx hb dX1_measureWays_64 rfl (lv_at hl 0 rfl) ?_
          refine lv_iload_n hx hb dX1_measureWays_65 rfl (lv_at hl 2 rfl) ?_
          obtain ⟨o_66, he, hsh⟩ := bd hsh
          refine kVi (ci := 1) S hK hA (ctX1_isAdmitted l D cI cJ cZ q_this q_gains q_roads q_steps q_worths q_depths q_rivals q_order v_admitted v_made v_worth v_set v_pipes v_days v_stops x3_56 o_66 he) noE_cl (cwV 1 hts gX1_measureWays_X1_isAdmitted rfl rfl rfl hdX1_isAdmitted ⟨Nat.le_of_ble_eq_true rfl, Nat.le_of_ble_eq_true rfl⟩) rfl 0 rfl [0] [1, 2, 3, 4] [4, 0, 1, 2, 3] (ws' := (wdX1_measureWays cI cJ cZ q_this q_p1 q_gains q_roads q_steps q_worths q_depths q_rivals q_order q_p1_days v_admitted v_made v_worth v_set v_pipes v_days v_stops w_roads_56 w_steps_j_54 w_p1_days)) ⟨rfl, rfl, rfl, rfl, rfl, rfl, rfl⟩ trivial rfl hl.1 rfl (Nat.le_of_ble_eq_true rfl) dX1_measureWays_66 hP hD hS (fun H locs hP hD hS => ?_)
          refine lv_if_eq (tgt := 78) hx hb dX1_measureWays_69 (by decide) (fun c1 => ?_) (fun c1 => ?_)
          · skip
            have hsh := ite_t hsh c1
            exact Jk56_78 w_roads_56 H locs hP hD hS ls (lv_sub hl [0, 1, 2] rfl) hsh
          · skip
            have hsh := ite_f hsh c1
            refine lv_aload_n hx hb dX1_measureWays_72 rfl (lv_at hl 0 rfl) ?_
            refine lv_iload_n hx hb dX1_measureWays_73 rfl (lv_at hl 2 rfl) ?_
            refine lv_iload_n hx hb dX1_measureWays_74 rfl (lv_at hl 1 rfl) ?_
            obtain ⟨o_75, he, hsh⟩ := bd hsh
            refine kVv (ci := 1) S hK hA (ctX1_measureSet l D cI cJ cZ q_this q_gains q_roads q_steps q_worths q_depths q_rivals q_order v_admitted v_made v_worth v_set v_pipes v_days v_stops w_roads_56 w_steps_j_54 x3_56 a2 o_75 he) noE_cl (cwV 2 hts gX1_measureWays_X1_measureSet rfl rfl rfl hdX1_measureSet ⟨Nat.le_of_ble_eq_true rfl, Nat.le_of_ble_eq_true rfl⟩) rfl 0 rfl [0, 1, 2] [3, 4] [2, 3, 4, 0, 1] (ws' := (wdX1_measureWays cI cJ cZ q_this q_p1 q_gains q_roads q_steps q_worths q_depths q_rivals q_order q_p1_days v_admitted v_made v_worth v_set v_pipes v_days v_stops o_75 w_steps_j_54 w_p1_days)) ⟨rfl, rfl, rfl, rfl, rfl, rfl, rfl⟩ trivial rfl hl.1 rfl (Nat.le_of_ble_eq_true rfl) dX1_measureWays_75 hP hD hS (fun H locs hP hD hS => ?_)
            exact Jk56_78 o_75 H locs hP hD hS ls (lv_sub hl [0, 1, 2] rfl) hsh
    exact L_56 n_56 (1 : Int32) w_roads_j_54 H locs hP hD hS ls (lv_sub hl [1, 2, 0] rfl) hn_56
  refine lv_iconst (v := (0 : Int32)) hx hb dX1_measureWays_0 (by decide) ?_
  refine lv_istore_n (lv' := [(3, .int (0 : Int32)), (0, .ref q_this), (1, .ref q_p1), (2, .int a2)]) hx hb dX1_measureWays_1 rfl hl (by decide) rfl (fun ls hl => ?_)
  obtain ⟨r_2, hl_2, hk_2⟩ := bd hsh
  obtain ⟨n_2, hn_2⟩ := lp_iff.mp hl_2
  have L_2 : ∀ (n : Nat) (x3_2 : Int32) (w_roads_2 : Nat → Int32) (w_steps_2 : Nat → Int32) (H : Heap) (locs : List Loc), va_P D vwCl (wdX1_measureWays cI cJ cZ q_this q_p1 q_gains q_roads q_steps q_worths q_depths q_rivals q_order q_p1_days v_admitted v_made v_worth v_set v_pipes v_days v_stops w_roads_2 w_steps_2 w_p1_days) H → va_D A (wdX1_measureWays cI cJ cZ q_this q_p1 q_gains q_roads q_steps q_worths q_depths q_rivals q_order q_p1_days v_admitted v_made v_worth v_set v_pipes v_days v_stops w_roads_2 w_steps_2 w_p1_days) → va_S A s.heap H locs → ∀ ls : Array Slot, lv_has ls 5 [(0, .ref q_this), (1, .ref q_p1), (2, .int a2), (3, .int x3_2)] → it (fun s : Int32 × (Nat → Int32) × (Nat → Int32) => shX1_measureWays_L2 a2 w_p1_days s.1 s.2.1 s.2.2) n (x3_2, w_roads_2, w_steps_2) = some r_2 → W p l e rmX1_measureWays s m args below meth c H locs 0 0 Q (F0 m 2 ls []) := by
    intro n
    induction n with
    | zero => exact fun _ _ _ _ _ _ _ _ _ _ hi => it_0 hi
    | succ n ih_2 =>
      intro x3_2 w_roads_2 w_steps_2 H locs hP hD hS ls hl hi
      obtain ⟨b_2, hsh, hB1_2, hB2_2⟩ := it_b hi
      replace hsh : shX1_measureWays_L2 a2 w_p1_days x3_2 w_roads_2 w_steps_2 = some b_2 := hsh
      unfold shX1_measureWays_L2 at hsh
      have Jk2_41 : ∀ (w_steps_k2_41 : Nat → Int32) (H : Heap) (locs : List Loc), va_P D vwCl (wdX1_measureWays cI cJ cZ q_this q_p1 q_gains q_roads q_steps q_worths q_depths q_rivals q_order q_p1_days v_admitted v_made v_worth v_set v_pipes v_days v_stops w_roads_2 w_steps_k2_41 w_p1_days) H → va_D A (wdX1_measureWays cI cJ cZ q_this q_p1 q_gains q_roads q_steps q_worths q_depths q_rivals q_order q_p1_days v_admitted v_made v_worth v_set v_pipes v_days v_stops w_roads_2 w_steps_k2_41 w_p1_days) → va_S A s.heap H locs → ∀ ls : Array Slot, lv_has ls 5 [(0, .ref q_this), (1, .ref q_p1), (2, .int a2), (3, .int x3_2)] → shX1_measureWays_k2_41 x3_2 w_roads_2 w_steps_k2_41 = some b_2 → W p l e rmX1_measureWays s m args below meth c H locs 0 0 Q (F0 m 41 ls []) := by
        intro w_steps_k2_41 H locs hP hD hS ls hl hsh
        unfold shX1_measureWays_k2_41 at hsh
        refine lv_aload_n hx hb dX1_measureWays_41 rfl (lv_at hl 0 rfl) ?_
        refine kget (ci := 1) S hK hP rfl inX1_measureWays_X1 0 rfl 2 (by decide) lkX1_measureWays_25 rfl dX1_measureWays_42 ?_
        refine lv_iload_n hx hb dX1_measureWays_45 rfl (lv_at hl 3 rfl) ?_
        refine lv_iconst (v := (0 : Int32)) hx hb dX1_measureWays_46 (by decide) ?_
        obtain ⟨_, hg, hsh⟩ := bd hsh
        refine kias S hK hP hD hS 1 0 rfl rfl (gd_in hg) (ws' := (wdX1_measureWays cI cJ cZ q_this q_p1 q_gains q_roads q_steps q_worths q_depths q_rivals q_order q_p1_days v_admitted v_made v_worth v_set v_pipes v_days v_stops (upd w_roads_2 (x3_2).toNatClampNeg (0 : Int32)) w_steps_k2_41 w_p1_days)) rfl dX1_measureWays_47 (fun H locs hP hD hS => ?_)
        refine lv_iinc (v := (x3_2 + (1 : Int32))) (lv' := [(3, .int (x3_2 + (1 : Int32))), (0, .ref q_this), (1, .ref q_p1), (2, .int a2)]) hx hb dX1_measureWays_48 hl (k := 3) rfl (congrArg (fun z : Int32 => x3_2 + z) (by decide)) (by decide) rfl (fun ls hl => ?_)
        refine lv_goto (tgt := 2) hx hb dX1_measureWays_51 (by decide) ?_
        exact ih_2 (x3_2 + (1 : Int32)) (upd w_roads_2 (x3_2).toNatClampNeg (0 : Int32)) w_steps_k2_41 H locs hP hD hS ls (lv_sub hl [1, 2, 3, 0] rfl) (hB1_2 _ hsh)
      refine lv_iload_n hx hb dX1_measureWays_2 rfl (lv_at hl 3 rfl) ?_
      refine lv_iload_n hx hb dX1_measureWays_3 rfl (lv_at hl 2 rfl) ?_
      refine lv_icmp_gt (tgt := 54) hx hb dX1_measureWays_4 (by decide) (fun c1 => ?_) (fun c1 => ?_)
      · skip
        have hsh := ite_t hsh c1
        have he := hB2_2 _ hsh
        rw [← he] at hk_2
        exact Jj_54 w_roads_2 w_steps_2 H locs hP hD hS ls (lv_sub hl [0, 2] rfl) hk_2
      · skip
        have hsh := ite_f hsh c1
        refine lv_iconst (v := (0 : Int32)) hx hb dX1_measureWays_7 (by decide) ?_
        refine lv_istore (lv' := [(4, .int (0 : Int32)), (0, .ref q_this), (1, .ref q_p1), (2, .int a2), (3, .int x3_2)]) hx hb dX1_measureWays_8 hl (by decide) rfl (fun ls hl => ?_)
        obtain ⟨r_10, hl_10, hk_10⟩ := bd hsh
        obtain ⟨n_10, hn_10⟩ := lp_iff.mp hl_10
        have L_10 : ∀ (n : Nat) (x4_10 : Int32) (w_steps_10 : Nat → Int32) (H : Heap) (locs : List Loc), va_P D vwCl (wdX1_measureWays cI cJ cZ q_this q_p1 q_gains q_roads q_steps q_worths q_depths q_rivals q_order q_p1_days v_admitted v_made v_worth v_set v_pipes v_days v_stops w_roads_2 w_steps_10 w_p1_days) H → va_D A (wdX1_measureWays cI cJ cZ q_this q_p1 q_gains q_roads q_steps q_worths q_depths q_rivals q_order q_p1_days v_admitted v_made v_worth v_set v_pipes v_days v_stops w_roads_2 w_steps_10 w_p1_days) → va_S A s.heap H locs → ∀ ls : Array Slot, lv_has ls 5 [(0, .ref q_this), (1, .ref q_p1), (2, .int a2), (3, .int x3_2), (4, .int x4_10)] → it (fun s : Int32 × (Nat → Int32) => shX1_measureWays_L10 a2 w_p1_days x3_2 s.1 s.2) n (x4_10, w_steps_10) = some r_10 → W p l e rmX1_measureWays s m args below meth c H locs 0 0 Q (F0 m 10 ls []) := by
          intro n
          induction n with
          | zero => exact fun _ _ _ _ _ _ _ _ _ hi => it_0 hi
          | succ n ih_10 =>
            intro x4_10 w_steps_10 H locs hP hD hS ls hl hi
            obtain ⟨b_10, hsh, hB1_10, hB2_10⟩ := it_b hi
            replace hsh : shX1_measureWays_L10 a2 w_p1_days x3_2 x4_10 w_steps_10 = some b_10 := hsh
            unfold shX1_measureWays_L10 at hsh
            refine lv_iload hx hb dX1_measureWays_10 (lv_at hl 4 rfl) ?_
            refine lv_iload_n hx hb dX1_measureWays_12 rfl (lv_at hl 2 rfl) ?_
            refine lv_icmp_gt (tgt := 41) hx hb dX1_measureWays_13 (by decide) (fun c1 => ?_) (fun c1 => ?_)
            · skip
              have hsh := ite_t hsh c1
              have he := hB2_10 _ hsh
              rw [← he] at hk_10
              exact Jk2_41 w_steps_10 H locs hP hD hS ls (lv_sub hl [0, 1, 2, 3] rfl) hk_10
            · skip
              have hsh := ite_f hsh c1
              refine lv_aload_n hx hb dX1_measureWays_16 rfl (lv_at hl 0 rfl) ?_
              refine kget (ci := 1) S hK hP rfl inX1_measureWays_X1 0 rfl 3 (by decide) lkX1_measureWays_29 rfl dX1_measureWays_17 ?_
              refine lv_iload_n hx hb dX1_measureWays_20 rfl (lv_at hl 3 rfl) ?_
              refine lv_bipush (v := (8 : Int32)) hx hb dX1_measureWays_21 (by decide) ?_
              refine lv_imul hx hb dX1_measureWays_23 ?_
              refine lv_iload hx hb dX1_measureWays_24 (lv_at hl 4 rfl) ?_
              refine lv_iadd hx hb dX1_measureWays_26 ?_
              refine lv_aload_n hx hb dX1_measureWays_27 rfl (lv_at hl 1 rfl) ?_
              refine lv_iload_n hx hb dX1_measureWays_28 rfl (lv_at hl 3 rfl) ?_
              refine lv_iload hx hb dX1_measureWays_29 (lv_at hl 4 rfl) ?_
              obtain ⟨o_31, he, hsh⟩ := bd hsh
              refine kSi S hK hA (ctX1_stepDays l D cI cJ cZ q_p1 q_p1_days w_p1_days x3_2 x4_10 o_31 he) noE_cl (va_cwS 3 hts gX1_measureWays_X1_stepDays rfl rfl rfl hdX1_stepDays ⟨Nat.le_of_ble_eq_true rfl, Nat.le_of_ble_eq_true rfl⟩) [3, 4] [0, 1, 2] [0, 1, 2, 3, 4] (ws' := (wdX1_measureWays cI cJ cZ q_this q_p1 q_gains q_roads q_steps q_worths q_depths q_rivals q_order q_p1_days v_admitted v_made v_worth v_set v_pipes v_days v_stops w_roads_2 w_steps_10 w_p1_days)) ⟨rfl, rfl, rfl, rfl, rfl, rfl, rfl⟩ trivial rfl hl.1 rfl (Nat.le_of_ble_eq_true rfl) dX1_measureWays_31 hP hD hS (fun H locs hP hD hS => ?_)
              obtain ⟨_, hg, hsh⟩ := bd hsh
              refine kias S hK hP hD hS 2 0 rfl rfl (gd_in hg) (ws' := (wdX1_measureWays cI cJ cZ q_this q_p1 q_gains q_roads q_steps q_worths q_depths q_rivals q_order q_p1_days v_admitted v_made v_worth v_set v_pipes v_days v_stops w_roads_2 (upd w_steps_10 (((x3_2 * (8 : Int32)) + x4_10)).toNatClampNeg o_31) w_p1_days)) rfl dX1_measureWays_34 (fun H locs hP hD hS => ?_)
              refine lv_iinc (v := (x4_10 + (1 : Int32))) (lv' := [(4, .int (x4_10 + (1 : Int32))), (0, .ref q_this), (1, .ref q_p1), (2, .int a2), (3, .int x3_2)]) hx hb dX1_measureWays_35 hl (k := 4) rfl (congrArg (fun z : Int32 => x4_10 + z) (by decide)) (by decide) rfl (fun ls hl => ?_)
              refine lv_goto (tgt := 10) hx hb dX1_measureWays_38 (by decide) ?_
              exact ih_10 (x4_10 + (1 : Int32)) (upd w_steps_10 (((x3_2 * (8 : Int32)) + x4_10)).toNatClampNeg o_31) H locs hP hD hS ls (lv_sub hl [1, 2, 3, 4, 0] rfl) (hB1_10 _ hsh)
        exact L_10 n_10 (0 : Int32) w_steps_2 H locs hP hD hS ls (lv_sub hl [1, 2, 3, 4, 0] rfl) hn_10
  exact L_2 n_2 (0 : Int32) w_roads w_steps H locs hP hD hS ls (lv_sub hl [1, 2, 3, 0] rfl) hn_2

/-! DryWells$Planner.firstOf -/
noncomputable def shX1_firstOf_j_23 (x1_j_23 : Int32) : Option (Int32) :=
  some x1_j_23
noncomputable def shX1_firstOf_L2 (a0 : Int32) (x1_2 : Int32) : Option ((Int32) ⊕ ((Int32))) :=
  (if (7 : Int32) ≤ x1_2 then some (Sum.inr x1_2) else ((shX1_bit x1_2).bind fun o_10 => (if ¬ (a0 &&& o_10) = 0 then some (Sum.inr x1_2) else some (Sum.inl (x1_2 + (1 : Int32))))))
noncomputable def shX1_firstOf (a0 : Int32) : Option (Int32) :=
  ((lp (fun s : Int32 => shX1_firstOf_L2 a0 s) (1 : Int32)).bind (fun p : Int32 => shX1_firstOf_j_23 p))
def wdX1_firstOf (cI cJ cZ : ClassId)   : va_W := []
abbrev rmX1_firstOf : Room := { frames := 1, cells := 0, slots := 0, locals := 20 }
theorem hdX1_firstOf : yX1_firstOf.cls ≠ "java/lang/invoke/MethodHandle" ∧ yX1_firstOf.cls ≠ "java/lang/invoke/VarHandle" ∧ (parseMethodDescriptor yX1_firstOf.desc).map (fun d => d.parameters.length) = some 1 := by decide +kernel
set_option maxHeartbeats 4000000 in
set_option maxRecDepth 100000 in
theorem ctX1_firstOf (l : Launch) (D : va_G) (cI cJ cZ : ClassId)  (a0 : Int32) (o : Int32) (hsh : shX1_firstOf a0 = some o) : CtI l yX1_firstOf wsX1_firstOf rmX1_firstOf D (tys3 cI cJ cZ) noE (wdX1_firstOf cI cJ cZ ) [.int a0] o (wdX1_firstOf cI cJ cZ ) := by
  refine ctI plX1 rfl (Nat.le_of_ble_eq_true rfl) ?_
  intro p e s m below meth c A Q S hK hA hE hret H locs hP hD hS ls hl
  replace S : CallFix p m c cX1_firstOf 2 s _ wsX1_firstOf RX1 := S
  generalize ([.int a0] : List Value).toArray = args at S hret ⊢
  obtain ⟨hx, hb, hml, hown, hts⟩ := id S
  replace hl : lv_has ls 2 [(0, .int a0)] := hl
  unfold shX1_firstOf at hsh
  have Jj_23 : ∀ (x1_j_23 : Int32) (H : Heap) (locs : List Loc), va_P D vwCl (wdX1_firstOf cI cJ cZ ) H → va_D A (wdX1_firstOf cI cJ cZ ) → va_S A s.heap H locs → ∀ ls : Array Slot, lv_has ls 2 [(1, .int x1_j_23)] → shX1_firstOf_j_23 x1_j_23 = some o → W p l e rmX1_firstOf s m args below meth c H locs 0 0 Q (F0 m 23 ls []) := by
    intro x1_j_23 H locs hP hD hS ls hl hsh
    unfold shX1_firstOf_j_23 at hsh
    refine lv_iload_n hx hb dX1_firstOf_23 rfl (lv_at hl 0 rfl) ?_
    have ho := Option.some.inj hsh
    rw [← ho] at hret
    exact hret _ _ _ _ dX1_firstOf_24 hP hD hS
  refine lv_iconst (v := (1 : Int32)) hx hb dX1_firstOf_0 (by decide) ?_
  refine lv_istore_n (lv' := [(1, .int (1 : Int32)), (0, .int a0)]) hx hb dX1_firstOf_1 rfl hl (by decide) rfl (fun ls hl => ?_)
  obtain ⟨r_2, hl_2, hk_2⟩ := bd hsh
  obtain ⟨n_2, hn_2⟩ := lp_iff.mp hl_2
  have L_2 : ∀ (n : Nat) (x1_2 : Int32) (H : Heap) (locs : List Loc), va_P D vwCl (wdX1_firstOf cI cJ cZ ) H → va_D A (wdX1_firstOf cI cJ cZ ) → va_S A s.heap H locs → ∀ ls : Array Slot, lv_has ls 2 [(0, .int a0), (1, .int x1_2)] → it (fun s : Int32 => shX1_firstOf_L2 a0 s) n x1_2 = some r_2 → W p l e rmX1_firstOf s m args below meth c H locs 0 0 Q (F0 m 2 ls []) := by
    intro n
    induction n with
    | zero => exact fun _ _ _ _ _ _ _ _ hi => it_0 hi
    | succ n ih_2 =>
      intro x1_2 H locs hP hD hS ls hl hi
      obtain ⟨b_2, hsh, hB1_2, hB2_2⟩ := it_b hi
      replace hsh : shX1_firstOf_L2 a0 x1_2 = some b_2 := hsh
      unfold shX1_firstOf_L2 at hsh
      refine lv_iload_n hx hb dX1_firstOf_2 rfl (lv_at hl 1 rfl) ?_
      refine lv_bipush (v := (7 : Int32)) hx hb dX1_firstOf_3 (by decide) ?_
      refine lv_icmp_ge (tgt := 23) hx hb dX1_firstOf_5 (by decide) (fun c1 => ?_) (fun c1 => ?_)
      · skip
        have hsh := ite_t hsh c1
        have he := hB2_2 _ hsh
        rw [← he] at hk_2
        exact Jj_23 x1_2 H locs hP hD hS ls (lv_sub hl [1] rfl) hk_2
      · skip
        have hsh := ite_f hsh c1
        refine lv_iload_n hx hb dX1_firstOf_8 rfl (lv_at hl 0 rfl) ?_
        refine lv_iload_n hx hb dX1_firstOf_9 rfl (lv_at hl 1 rfl) ?_
        obtain ⟨o_10, he, hsh⟩ := bd hsh
        refine kSi S hK hA (ctX1_bit l D cI cJ cZ x1_2 o_10 he) noE_cl (va_cwS 1 hts gX1_firstOf_X1_bit rfl rfl rfl hdX1_bit ⟨Nat.le_of_ble_eq_true rfl, Nat.le_of_ble_eq_true rfl⟩) [] [] [] (ws' := (wdX1_firstOf cI cJ cZ )) ⟨rfl, rfl, rfl, rfl, rfl, rfl, rfl⟩ trivial rfl hl.1 rfl (Nat.le_of_ble_eq_true rfl) dX1_firstOf_10 hP hD hS (fun H locs hP hD hS => ?_)
        refine lv_iand hx hb dX1_firstOf_13 ?_
        refine lv_if_ne (tgt := 23) hx hb dX1_firstOf_14 (by decide) (fun c1 => ?_) (fun c1 => ?_)
        · skip
          have hsh := ite_t hsh c1
          have he := hB2_2 _ hsh
          rw [← he] at hk_2
          exact Jj_23 x1_2 H locs hP hD hS ls (lv_sub hl [1] rfl) hk_2
        · skip
          have hsh := ite_f hsh (fun h => h c1)
          refine lv_iinc (v := (x1_2 + (1 : Int32))) (lv' := [(1, .int (x1_2 + (1 : Int32))), (0, .int a0)]) hx hb dX1_firstOf_17 hl (k := 1) rfl (congrArg (fun z : Int32 => x1_2 + z) (by decide)) (by decide) rfl (fun ls hl => ?_)
          refine lv_goto (tgt := 2) hx hb dX1_firstOf_20 (by decide) ?_
          exact ih_2 (x1_2 + (1 : Int32)) H locs hP hD hS ls (lv_sub hl [1, 0] rfl) (hB1_2 _ hsh)
  exact L_2 n_2 (1 : Int32) H locs hP hD hS ls (lv_sub hl [1, 0] rfl) hn_2

/-! DryWells$Planner.worthWith -/
noncomputable def shX1_worthWith (a1 : Int32) (a2 : Int32) (a3 : Int32) (a4 : Int32) (w_gains : Nat → Int64) (w_worths : Nat → Int64) : Option (Int64) :=
  ((gd ((a1 * (29 : Int32)) + a2) 3712).bind fun _ => (if ¬ (w_worths (((a1 * (29 : Int32)) + a2)).toNatClampNeg) = (-1 : Int64) then ((gd ((a3 * (5 : Int32)) + a4) 40).bind fun _ => some ((w_worths (((a1 * (29 : Int32)) + a2)).toNatClampNeg) + (w_gains (((a3 * (5 : Int32)) + a4)).toNatClampNeg))) else some (-1 : Int64)))
def wdX1_worthWith (cI cJ cZ : ClassId) (q_this q_gains q_roads q_steps q_worths q_depths q_rivals q_order : Nat) (v_admitted : Int32) (v_made : Int32) (v_worth : Int64) (v_set : Int32) (v_pipes : Int32) (v_days : Int32) (v_stops : Int32) (w_gains : Nat → Int64) (w_worths : Nat → Int64) : va_W := [(q_this, .inr (1, [.int v_admitted, .ref q_gains, .ref q_roads, .ref q_steps, .ref q_worths, .int v_made, .long v_worth, .int v_set, .int v_pipes, .int v_days, .int v_stops, .ref q_depths, .ref q_rivals, .ref q_order])), (q_gains, .inl (cJ, 40, .inr (.inl w_gains))), (q_worths, .inl (cJ, 3712, .inr (.inl w_worths)))]
abbrev rmX1_worthWith : Room := { frames := 0, cells := 0, slots := 0, locals := 0 }
theorem inX1_worthWith_X1 : ∀ w ∈ u_ws RX1 TX1 14, w ∈ wsX1_worthWith := fun _ h => List.mem_cons_of_mem _ (List.mem_append_right _ h)
theorem lkX1_worthWith_32 : Cond.fieldLink RX1 32 (TX1 4).1 (TX1 4).2.1 (TX1 4).2.2.1 ∈ wsX1_worthWith := List.mem_of_getElem? (i := 1) rfl
theorem lkX1_worthWith_21 : Cond.fieldLink RX1 21 (TX1 1).1 (TX1 1).2.1 (TX1 1).2.2.1 ∈ wsX1_worthWith := List.mem_of_getElem? (i := 3) rfl
theorem hdX1_worthWith : yX1_worthWith.cls = RX1 ∧ yX1_worthWith.cls ≠ "java/lang/invoke/MethodHandle" ∧ yX1_worthWith.cls ≠ "java/lang/invoke/VarHandle" ∧ (parseMethodDescriptor yX1_worthWith.desc).map (fun d => d.parameters.length) = some 4 := by decide +kernel
set_option maxHeartbeats 4000000 in
set_option maxRecDepth 100000 in
theorem ctX1_worthWith (l : Launch) (D : va_G) (cI cJ cZ : ClassId) (q_this q_gains q_roads q_steps q_worths q_depths q_rivals q_order : Nat) (v_admitted : Int32) (v_made : Int32) (v_worth : Int64) (v_set : Int32) (v_pipes : Int32) (v_days : Int32) (v_stops : Int32) (w_gains : Nat → Int64) (w_worths : Nat → Int64) (a1 : Int32) (a2 : Int32) (a3 : Int32) (a4 : Int32) (o : Int64) (hsh : shX1_worthWith a1 a2 a3 a4 w_gains w_worths = some o) : CtL l yX1_worthWith wsX1_worthWith rmX1_worthWith D (tys3 cI cJ cZ) noE (wdX1_worthWith cI cJ cZ q_this q_gains q_roads q_steps q_worths q_depths q_rivals q_order v_admitted v_made v_worth v_set v_pipes v_days v_stops w_gains w_worths) [.ref q_this, .int a1, .int a2, .int a3, .int a4] o (wdX1_worthWith cI cJ cZ q_this q_gains q_roads q_steps q_worths q_depths q_rivals q_order v_admitted v_made v_worth v_set v_pipes v_days v_stops w_gains w_worths) := by
  refine ctL plX1 rfl (Nat.le_of_ble_eq_true rfl) ?_
  intro p e s m below meth c A Q S hK hA hE hret H locs hP hD hS ls hl
  replace S : CallFix p m c cX1_worthWith 7 s _ wsX1_worthWith RX1 := S
  generalize ([.ref q_this, .int a1, .int a2, .int a3, .int a4] : List Value).toArray = args at S hret ⊢
  obtain ⟨hx, hb, hml, hown, hts⟩ := id S
  replace hl : lv_has ls 7 [(0, .ref q_this), (1, .int a1), (2, .int a2), (3, .int a3), (4, .int a4)] := hl
  unfold shX1_worthWith at hsh
  refine lv_aload_n hx hb dX1_worthWith_0 rfl (lv_at hl 0 rfl) ?_
  refine kget (ci := 1) S hK hP rfl inX1_worthWith_X1 0 rfl 4 (by decide) lkX1_worthWith_32 rfl dX1_worthWith_1 ?_
  refine lv_iload_n hx hb dX1_worthWith_4 rfl (lv_at hl 1 rfl) ?_
  refine lv_bipush (v := (29 : Int32)) hx hb dX1_worthWith_5 (by decide) ?_
  refine lv_imul hx hb dX1_worthWith_7 ?_
  refine lv_iload_n hx hb dX1_worthWith_8 rfl (lv_at hl 2 rfl) ?_
  refine lv_iadd hx hb dX1_worthWith_9 ?_
  obtain ⟨_, hg, hsh⟩ := bd hsh
  refine klal S hK hP 2 1 rfl rfl (gd_in hg) dX1_worthWith_10 ?_
  refine lv_lstore (lv' := [(5, .long (w_worths (((a1 * (29 : Int32)) + a2)).toNatClampNeg)), (0, .ref q_this), (1, .int a1), (2, .int a2), (3, .int a3), (4, .int a4)]) hx hb dX1_worthWith_11 hl (by decide) rfl (fun ls hl => ?_)
  refine lv_lload hx hb dX1_worthWith_13 (lv_at hl 0 rfl) ?_
  refine lv_ldc2 hx hb hown (v := (-1 : Int64)) (hts _ (List.mem_of_getElem? (i := 2) rfl)) dX1_worthWith_15 ?_
  refine W.lcmp hx hb dX1_worthWith_18 ?_
  refine lv_if_ne (tgt := 28) hx hb dX1_worthWith_19 (by decide) (fun c1 => ?_) (fun c1 => ?_)
  · have c1 := fun h => c1 (lc_eq.mpr h)
    have hsh := ite_t hsh c1
    refine lv_lload hx hb dX1_worthWith_28 (lv_at hl 0 rfl) ?_
    refine lv_aload_n hx hb dX1_worthWith_30 rfl (lv_at hl 1 rfl) ?_
    refine kget (ci := 1) S hK hP rfl inX1_worthWith_X1 0 rfl 1 (by decide) lkX1_worthWith_21 rfl dX1_worthWith_31 ?_
    refine lv_iload_n hx hb dX1_worthWith_34 rfl (lv_at hl 4 rfl) ?_
    refine lv_iconst (v := (5 : Int32)) hx hb dX1_worthWith_35 (by decide) ?_
    refine lv_imul hx hb dX1_worthWith_36 ?_
    refine lv_iload hx hb dX1_worthWith_37 (lv_at hl 5 rfl) ?_
    refine lv_iadd hx hb dX1_worthWith_39 ?_
    obtain ⟨_, hg, hsh⟩ := bd hsh
    refine klal S hK hP 1 1 rfl rfl (gd_in hg) dX1_worthWith_40 ?_
    refine lv_ladd hx hb dX1_worthWith_41 ?_
    have ho := Option.some.inj hsh
    rw [← ho] at hret
    exact hret _ _ _ _ dX1_worthWith_42 hP hD hS
  · have c1 := lc_eq.mp c1
    have hsh := ite_f hsh (fun h => h c1)
    refine lv_ldc2 hx hb hown (v := (-1 : Int64)) (hts _ (List.mem_of_getElem? (i := 2) rfl)) dX1_worthWith_22 ?_
    refine lv_goto (tgt := 42) hx hb dX1_worthWith_25 (by decide) ?_
    have ho := Option.some.inj hsh
    rw [← ho] at hret
    exact hret _ _ _ _ dX1_worthWith_42 hP hD hS

/-! DryWells$Planner.greatest -/
noncomputable def shX1_greatest_j_45 (x4_j_45 : Int64) : Option (Int64) :=
  some x4_j_45
noncomputable def shX1_greatest_L8 (a1 : Int32) (a2 : Int32) (a3 : Int32) (w_gains : Nat → Int64) (w_worths : Nat → Int64) (x4_8 : Int64) (x6_8 : Int32) : Option ((Int64 × Int32) ⊕ ((Int64))) :=
  (if (4 : Int32) < x6_8 then some (Sum.inr x4_8) else (if a2 < x6_8 then some (Sum.inr x4_8) else ((shX1_worthWith a1 (a2 - x6_8) a3 x6_8 w_gains w_worths).bind fun o_31 => some (Sum.inl ((if o_31 < x4_8 then x4_8 else o_31), (x6_8 + (1 : Int32)))))))
noncomputable def shX1_greatest (a1 : Int32) (a2 : Int32) (a3 : Int32) (w_gains : Nat → Int64) (w_worths : Nat → Int64) : Option (Int64) :=
  ((lp (fun s : Int64 × Int32 => shX1_greatest_L8 a1 a2 a3 w_gains w_worths s.1 s.2) ((-1 : Int64), (1 : Int32))).bind (fun p : Int64 => shX1_greatest_j_45 p))
def wdX1_greatest (cI cJ cZ : ClassId) (q_this q_gains q_roads q_steps q_worths q_depths q_rivals q_order : Nat) (v_admitted : Int32) (v_made : Int32) (v_worth : Int64) (v_set : Int32) (v_pipes : Int32) (v_days : Int32) (v_stops : Int32) (w_gains : Nat → Int64) (w_worths : Nat → Int64) : va_W := [(q_this, .inr (1, [.int v_admitted, .ref q_gains, .ref q_roads, .ref q_steps, .ref q_worths, .int v_made, .long v_worth, .int v_set, .int v_pipes, .int v_days, .int v_stops, .ref q_depths, .ref q_rivals, .ref q_order])), (q_gains, .inl (cJ, 40, .inr (.inl w_gains))), (q_worths, .inl (cJ, 3712, .inr (.inl w_worths)))]
abbrev rmX1_greatest : Room := { frames := 1, cells := 0, slots := 0, locals := 26 }
theorem inX1_greatest_X1 : ∀ w ∈ u_ws RX1 TX1 14, w ∈ wsX1_greatest := fun _ h => List.mem_cons_of_mem _ (List.mem_append_right _ h)
theorem hdX1_greatest : yX1_greatest.cls = RX1 ∧ yX1_greatest.cls ≠ "java/lang/invoke/MethodHandle" ∧ yX1_greatest.cls ≠ "java/lang/invoke/VarHandle" ∧ (parseMethodDescriptor yX1_greatest.desc).map (fun d => d.parameters.length) = some 3 := by decide +kernel
set_option maxHeartbeats 4000000 in
set_option maxRecDepth 100000 in
theorem ctX1_greatest (l : Launch) (D : va_G) (cI cJ cZ : ClassId) (q_this q_gains q_roads q_steps q_worths q_depths q_rivals q_order : Nat) (v_admitted : Int32) (v_made : Int32) (v_worth : Int64) (v_set : Int32) (v_pipes : Int32) (v_days : Int32) (v_stops : Int32) (w_gains : Nat → Int64) (w_worths : Nat → Int64) (a1 : Int32) (a2 : Int32) (a3 : Int32) (o : Int64) (hsh : shX1_greatest a1 a2 a3 w_gains w_worths = some o) : CtL l yX1_greatest wsX1_greatest rmX1_greatest D (tys3 cI cJ cZ) noE (wdX1_greatest cI cJ cZ q_this q_gains q_roads q_steps q_worths q_depths q_rivals q_order v_admitted v_made v_worth v_set v_pipes v_days v_stops w_gains w_worths) [.ref q_this, .int a1, .int a2, .int a3] o (wdX1_greatest cI cJ cZ q_this q_gains q_roads q_steps q_worths q_depths q_rivals q_order v_admitted v_made v_worth v_set v_pipes v_days v_stops w_gains w_worths) := by
  refine ctL plX1 rfl (Nat.le_of_ble_eq_true rfl) ?_
  intro p e s m below meth c A Q S hK hA hE hret H locs hP hD hS ls hl
  replace S : CallFix p m c cX1_greatest 7 s _ wsX1_greatest RX1 := S
  generalize ([.ref q_this, .int a1, .int a2, .int a3] : List Value).toArray = args at S hret ⊢
  obtain ⟨hx, hb, hml, hown, hts⟩ := id S
  replace hl : lv_has ls 7 [(0, .ref q_this), (1, .int a1), (2, .int a2), (3, .int a3)] := hl
  unfold shX1_greatest at hsh
  have Jj_45 : ∀ (x4_j_45 : Int64) (H : Heap) (locs : List Loc), va_P D vwCl (wdX1_greatest cI cJ cZ q_this q_gains q_roads q_steps q_worths q_depths q_rivals q_order v_admitted v_made v_worth v_set v_pipes v_days v_stops w_gains w_worths) H → va_D A (wdX1_greatest cI cJ cZ q_this q_gains q_roads q_steps q_worths q_depths q_rivals q_order v_admitted v_made v_worth v_set v_pipes v_days v_stops w_gains w_worths) → va_S A s.heap H locs → ∀ ls : Array Slot, lv_has ls 7 [(4, .long x4_j_45)] → shX1_greatest_j_45 x4_j_45 = some o → W p l e rmX1_greatest s m args below meth c H locs 0 0 Q (F0 m 45 ls []) := by
    intro x4_j_45 H locs hP hD hS ls hl hsh
    unfold shX1_greatest_j_45 at hsh
    refine lv_lload hx hb dX1_greatest_45 (lv_at hl 0 rfl) ?_
    have ho := Option.some.inj hsh
    rw [← ho] at hret
    exact hret _ _ _ _ dX1_greatest_47 hP hD hS
  refine lv_ldc2 hx hb hown (v := (-1 : Int64)) (hts _ (List.mem_of_getElem? (i := 1) rfl)) dX1_greatest_0 ?_
  refine lv_lstore (lv' := [(4, .long (-1 : Int64)), (0, .ref q_this), (1, .int a1), (2, .int a2), (3, .int a3)]) hx hb dX1_greatest_3 hl (by decide) rfl (fun ls hl => ?_)
  refine lv_iconst (v := (1 : Int32)) hx hb dX1_greatest_5 (by decide) ?_
  refine lv_istore (lv' := [(6, .int (1 : Int32)), (4, .long (-1 : Int64)), (0, .ref q_this), (1, .int a1), (2, .int a2), (3, .int a3)]) hx hb dX1_greatest_6 hl (by decide) rfl (fun ls hl => ?_)
  obtain ⟨r_8, hl_8, hk_8⟩ := bd hsh
  obtain ⟨n_8, hn_8⟩ := lp_iff.mp hl_8
  have L_8 : ∀ (n : Nat) (x4_8 : Int64) (x6_8 : Int32) (H : Heap) (locs : List Loc), va_P D vwCl (wdX1_greatest cI cJ cZ q_this q_gains q_roads q_steps q_worths q_depths q_rivals q_order v_admitted v_made v_worth v_set v_pipes v_days v_stops w_gains w_worths) H → va_D A (wdX1_greatest cI cJ cZ q_this q_gains q_roads q_steps q_worths q_depths q_rivals q_order v_admitted v_made v_worth v_set v_pipes v_days v_stops w_gains w_worths) → va_S A s.heap H locs → ∀ ls : Array Slot, lv_has ls 7 [(0, .ref q_this), (1, .int a1), (2, .int a2), (3, .int a3), (4, .long x4_8), (6, .int x6_8)] → it (fun s : Int64 × Int32 => shX1_greatest_L8 a1 a2 a3 w_gains w_worths s.1 s.2) n (x4_8, x6_8) = some r_8 → W p l e rmX1_greatest s m args below meth c H locs 0 0 Q (F0 m 8 ls []) := by
    intro n
    induction n with
    | zero => exact fun _ _ _ _ _ _ _ _ _ hi => it_0 hi
    | succ n ih_8 =>
      intro x4_8 x6_8 H locs hP hD hS ls hl hi
      obtain ⟨b_8, hsh, hB1_8, hB2_8⟩ := it_b hi
      replace hsh : shX1_greatest_L8 a1 a2 a3 w_gains w_worths x4_8 x6_8 = some b_8 := hsh
      unfold shX1_greatest_L8 at hsh
      refine lv_iload hx hb dX1_greatest_8 (lv_at hl 5 rfl) ?_
      refine lv_iconst (v := (4 : Int32)) hx hb dX1_greatest_10 (by decide) ?_
      refine lv_icmp_gt (tgt := 45) hx hb dX1_greatest_11 (by decide) (fun c1 => ?_) (fun c1 => ?_)
      · skip
        have hsh := ite_t hsh c1
        have he := hB2_8 _ hsh
        rw [← he] at hk_8
        exact Jj_45 x4_8 H locs hP hD hS ls (lv_sub hl [4] rfl) hk_8
      · skip
        have hsh := ite_f hsh c1
        refine lv_iload hx hb dX1_greatest_14 (lv_at hl 5 rfl) ?_
        refine lv_iload_n hx hb dX1_greatest_16 rfl (lv_at hl 2 rfl) ?_
        refine lv_icmp_gt (tgt := 45) hx hb dX1_greatest_17 (by decide) (fun c1 => ?_) (fun c1 => ?_)
        · skip
          have hsh := ite_t hsh c1
          have he := hB2_8 _ hsh
          rw [← he] at hk_8
          exact Jj_45 x4_8 H locs hP hD hS ls (lv_sub hl [4] rfl) hk_8
        · skip
          have hsh := ite_f hsh c1
          refine lv_lload hx hb dX1_greatest_20 (lv_at hl 4 rfl) ?_
          refine lv_aload_n hx hb dX1_greatest_22 rfl (lv_at hl 0 rfl) ?_
          refine lv_iload_n hx hb dX1_greatest_23 rfl (lv_at hl 1 rfl) ?_
          refine lv_iload_n hx hb dX1_greatest_24 rfl (lv_at hl 2 rfl) ?_
          refine lv_iload hx hb dX1_greatest_25 (lv_at hl 5 rfl) ?_
          refine lv_isub hx hb dX1_greatest_27 ?_
          refine lv_iload_n hx hb dX1_greatest_28 rfl (lv_at hl 3 rfl) ?_
          refine lv_iload hx hb dX1_greatest_29 (lv_at hl 5 rfl) ?_
          obtain ⟨o_31, he, hsh⟩ := bd hsh
          refine kVl (ci := 1) S hK hA (ctX1_worthWith l D cI cJ cZ q_this q_gains q_roads q_steps q_worths q_depths q_rivals q_order v_admitted v_made v_worth v_set v_pipes v_days v_stops w_gains w_worths a1 (a2 - x6_8) a3 x6_8 o_31 he) noE_cl (cwV 4 hts gX1_greatest_X1_worthWith rfl rfl rfl hdX1_worthWith ⟨Nat.le_of_ble_eq_true rfl, Nat.le_of_ble_eq_true rfl⟩) rfl 0 rfl [0, 1, 2] [] [0, 1, 2] (ws' := (wdX1_greatest cI cJ cZ q_this q_gains q_roads q_steps q_worths q_depths q_rivals q_order v_admitted v_made v_worth v_set v_pipes v_days v_stops w_gains w_worths)) ⟨rfl, rfl, rfl, rfl, rfl, rfl, rfl⟩ trivial rfl hl.1 rfl (Nat.le_of_ble_eq_true rfl) dX1_greatest_31 hP hD hS (fun H locs hP hD hS => ?_)
          refine va_mmax_long hx hb (S.2.2.1.trans hl.1.symm) hown (hts _ (List.mem_of_getElem? (i := 2) rfl)) (hts _ (List.mem_of_getElem? (i := 3) rfl)) (hts _ (List.mem_of_getElem? (i := 4) rfl)) (hts _ (List.mem_of_getElem? (i := 5) rfl)) (Nat.le_of_ble_eq_true rfl) (Nat.le_of_ble_eq_true rfl) (Nat.le_of_ble_eq_true rfl) (Nat.le_of_ble_eq_true rfl) dX1_greatest_34 ?_
          refine lv_lstore (lv' := [(4, .long (if o_31 < x4_8 then x4_8 else o_31)), (0, .ref q_this), (1, .int a1), (2, .int a2), (3, .int a3), (6, .int x6_8)]) hx hb dX1_greatest_37 hl (by decide) rfl (fun ls hl => ?_)
          refine lv_iinc (v := (x6_8 + (1 : Int32))) (lv' := [(6, .int (x6_8 + (1 : Int32))), (4, .long (if o_31 < x4_8 then x4_8 else o_31)), (0, .ref q_this), (1, .int a1), (2, .int a2), (3, .int a3)]) hx hb dX1_greatest_39 hl (k := 5) rfl (congrArg (fun z : Int32 => x6_8 + z) (by decide)) (by decide) rfl (fun ls hl => ?_)
          refine lv_goto (tgt := 8) hx hb dX1_greatest_42 (by decide) ?_
          exact ih_8 (if o_31 < x4_8 then x4_8 else o_31) (x6_8 + (1 : Int32)) H locs hP hD hS ls (lv_sub hl [2, 3, 4, 5, 1, 0] rfl) (hB1_8 _ hsh)
  exact L_8 n_8 (-1 : Int64) (1 : Int32) H locs hP hD hS ls (lv_sub hl [2, 3, 4, 5, 1, 0] rfl) hn_8

/-! DryWells$Planner.weighSet -/
noncomputable def shX1_weighSet_j_51 (w_worths_j_51 : Nat → Int64) : Option ((Nat → Int64)) :=
  some w_worths_j_51
noncomputable def shX1_weighSet_L18 (a1 : Int32) (a2 : Int32) (w_gains : Nat → Int64) (o_1 : Int32) (o_7 : Int32) (x5_18 : Int32) (w_worths_18 : Nat → Int64) : Option ((Int32 × (Nat → Int64)) ⊕ (((Nat → Int64)))) :=
  (if a2 < x5_18 then some (Sum.inr w_worths_18) else ((shX1_greatest (a1 &&& (o_7 ^^^ (-1 : Int32))) x5_18 o_1 w_gains w_worths_18).bind fun o_41 => ((gd ((a1 * (29 : Int32)) + x5_18) 3712).bind fun _ => some (Sum.inl ((x5_18 + (1 : Int32)), (vp_updL w_worths_18 (((a1 * (29 : Int32)) + x5_18)).toNatClampNeg o_41))))))
noncomputable def shX1_weighSet (a1 : Int32) (a2 : Int32) (w_gains : Nat → Int64) (w_worths : Nat → Int64) : Option ((Nat → Int64)) :=
  ((shX1_firstOf a1).bind fun o_1 => ((shX1_bit o_1).bind fun o_7 => ((lp (fun s : Int32 × (Nat → Int64) => shX1_weighSet_L18 a1 a2 w_gains o_1 o_7 s.1 s.2) ((0 : Int32), w_worths)).bind (fun p : (Nat → Int64) => shX1_weighSet_j_51 p))))
def wdX1_weighSet (cI cJ cZ : ClassId) (q_this q_gains q_roads q_steps q_worths q_depths q_rivals q_order : Nat) (v_admitted : Int32) (v_made : Int32) (v_worth : Int64) (v_set : Int32) (v_pipes : Int32) (v_days : Int32) (v_stops : Int32) (w_gains : Nat → Int64) (w_worths : Nat → Int64) : va_W := [(q_this, .inr (1, [.int v_admitted, .ref q_gains, .ref q_roads, .ref q_steps, .ref q_worths, .int v_made, .long v_worth, .int v_set, .int v_pipes, .int v_days, .int v_stops, .ref q_depths, .ref q_rivals, .ref q_order])), (q_gains, .inl (cJ, 40, .inr (.inl w_gains))), (q_worths, .inl (cJ, 3712, .inr (.inl w_worths)))]
abbrev rmX1_weighSet : Room := { frames := 2, cells := 0, slots := 0, locals := 52 }
theorem inX1_weighSet_X1 : ∀ w ∈ u_ws RX1 TX1 14, w ∈ wsX1_weighSet := fun _ h => List.mem_cons_of_mem _ (List.mem_append_right _ h)
theorem lkX1_weighSet_32 : Cond.fieldLink RX1 32 (TX1 4).1 (TX1 4).2.1 (TX1 4).2.2.1 ∈ wsX1_weighSet := List.mem_of_getElem? (i := 1) rfl
theorem hdX1_weighSet : yX1_weighSet.cls = RX1 ∧ yX1_weighSet.cls ≠ "java/lang/invoke/MethodHandle" ∧ yX1_weighSet.cls ≠ "java/lang/invoke/VarHandle" ∧ (parseMethodDescriptor yX1_weighSet.desc).map (fun d => d.parameters.length) = some 2 := by decide +kernel
set_option maxHeartbeats 4000000 in
set_option maxRecDepth 100000 in
theorem ctX1_weighSet (l : Launch) (D : va_G) (cI cJ cZ : ClassId) (q_this q_gains q_roads q_steps q_worths q_depths q_rivals q_order : Nat) (v_admitted : Int32) (v_made : Int32) (v_worth : Int64) (v_set : Int32) (v_pipes : Int32) (v_days : Int32) (v_stops : Int32) (w_gains : Nat → Int64) (w_worths : Nat → Int64) (a1 : Int32) (a2 : Int32) (o : (Nat → Int64)) (hsh : shX1_weighSet a1 a2 w_gains w_worths = some o) : CtV l yX1_weighSet wsX1_weighSet rmX1_weighSet D (tys3 cI cJ cZ) noE (wdX1_weighSet cI cJ cZ q_this q_gains q_roads q_steps q_worths q_depths q_rivals q_order v_admitted v_made v_worth v_set v_pipes v_days v_stops w_gains w_worths) [.ref q_this, .int a1, .int a2]  (wdX1_weighSet cI cJ cZ q_this q_gains q_roads q_steps q_worths q_depths q_rivals q_order v_admitted v_made v_worth v_set v_pipes v_days v_stops w_gains o) := by
  refine ctV plX1 rfl (Nat.le_of_ble_eq_true rfl) ?_
  intro p e s m below meth c A Q S hK hA hE hret H locs hP hD hS ls hl
  replace S : CallFix p m c cX1_weighSet 6 s _ wsX1_weighSet RX1 := S
  generalize ([.ref q_this, .int a1, .int a2] : List Value).toArray = args at S hret ⊢
  obtain ⟨hx, hb, hml, hown, hts⟩ := id S
  replace hl : lv_has ls 6 [(0, .ref q_this), (1, .int a1), (2, .int a2)] := hl
  unfold shX1_weighSet at hsh
  have Jj_51 : ∀ (w_worths_j_51 : Nat → Int64) (H : Heap) (locs : List Loc), va_P D vwCl (wdX1_weighSet cI cJ cZ q_this q_gains q_roads q_steps q_worths q_depths q_rivals q_order v_admitted v_made v_worth v_set v_pipes v_days v_stops w_gains w_worths_j_51) H → va_D A (wdX1_weighSet cI cJ cZ q_this q_gains q_roads q_steps q_worths q_depths q_rivals q_order v_admitted v_made v_worth v_set v_pipes v_days v_stops w_gains w_worths_j_51) → va_S A s.heap H locs → ∀ ls : Array Slot, lv_has ls 6 [] → shX1_weighSet_j_51 w_worths_j_51 = some o → W p l e rmX1_weighSet s m args below meth c H locs 0 0 Q (F0 m 51 ls []) := by
    intro w_worths_j_51 H locs hP hD hS ls hl hsh
    unfold shX1_weighSet_j_51 at hsh
    have ho := Option.some.inj hsh
    rw [← ho] at hret
    exact hret _ _ _ _ dX1_weighSet_51 hP hD hS
  refine lv_iload_n hx hb dX1_weighSet_0 rfl (lv_at hl 1 rfl) ?_
  obtain ⟨o_1, he, hsh⟩ := bd hsh
  refine kSi S hK hA (ctX1_firstOf l D cI cJ cZ a1 o_1 he) noE_cl (va_cwS 1 hts gX1_weighSet_X1_firstOf rfl rfl rfl hdX1_firstOf ⟨Nat.le_of_ble_eq_true rfl, Nat.le_of_ble_eq_true rfl⟩) [] [0, 1, 2] [0, 1, 2] (ws' := (wdX1_weighSet cI cJ cZ q_this q_gains q_roads q_steps q_worths q_depths q_rivals q_order v_admitted v_made v_worth v_set v_pipes v_days v_stops w_gains w_worths)) ⟨rfl, rfl, rfl, rfl, rfl, rfl, rfl⟩ trivial rfl hl.1 rfl (Nat.le_of_ble_eq_true rfl) dX1_weighSet_1 hP hD hS (fun H locs hP hD hS => ?_)
  refine lv_istore_n (lv' := [(3, .int o_1), (0, .ref q_this), (1, .int a1), (2, .int a2)]) hx hb dX1_weighSet_4 rfl hl (by decide) rfl (fun ls hl => ?_)
  refine lv_iload_n hx hb dX1_weighSet_5 rfl (lv_at hl 2 rfl) ?_
  refine lv_iload_n hx hb dX1_weighSet_6 rfl (lv_at hl 0 rfl) ?_
  obtain ⟨o_7, he, hsh⟩ := bd hsh
  refine kSi S hK hA (ctX1_bit l D cI cJ cZ o_1 o_7 he) noE_cl (va_cwS 1 hts gX1_weighSet_X1_bit rfl rfl rfl hdX1_bit ⟨Nat.le_of_ble_eq_true rfl, Nat.le_of_ble_eq_true rfl⟩) [] [0, 1, 2] [0, 1, 2] (ws' := (wdX1_weighSet cI cJ cZ q_this q_gains q_roads q_steps q_worths q_depths q_rivals q_order v_admitted v_made v_worth v_set v_pipes v_days v_stops w_gains w_worths)) ⟨rfl, rfl, rfl, rfl, rfl, rfl, rfl⟩ trivial rfl hl.1 rfl (Nat.le_of_ble_eq_true rfl) dX1_weighSet_7 hP hD hS (fun H locs hP hD hS => ?_)
  refine lv_iconst (v := (-1 : Int32)) hx hb dX1_weighSet_10 (by decide) ?_
  refine lv_ixor hx hb dX1_weighSet_11 ?_
  refine lv_iand hx hb dX1_weighSet_12 ?_
  refine lv_istore (lv' := [(4, .int (a1 &&& (o_7 ^^^ (-1 : Int32)))), (3, .int o_1), (0, .ref q_this), (1, .int a1), (2, .int a2)]) hx hb dX1_weighSet_13 hl (by decide) rfl (fun ls hl => ?_)
  refine lv_iconst (v := (0 : Int32)) hx hb dX1_weighSet_15 (by decide) ?_
  refine lv_istore (lv' := [(5, .int (0 : Int32)), (4, .int (a1 &&& (o_7 ^^^ (-1 : Int32)))), (3, .int o_1), (0, .ref q_this), (1, .int a1), (2, .int a2)]) hx hb dX1_weighSet_16 hl (by decide) rfl (fun ls hl => ?_)
  obtain ⟨r_18, hl_18, hk_18⟩ := bd hsh
  obtain ⟨n_18, hn_18⟩ := lp_iff.mp hl_18
  have L_18 : ∀ (n : Nat) (x5_18 : Int32) (w_worths_18 : Nat → Int64) (H : Heap) (locs : List Loc), va_P D vwCl (wdX1_weighSet cI cJ cZ q_this q_gains q_roads q_steps q_worths q_depths q_rivals q_order v_admitted v_made v_worth v_set v_pipes v_days v_stops w_gains w_worths_18) H → va_D A (wdX1_weighSet cI cJ cZ q_this q_gains q_roads q_steps q_worths q_depths q_rivals q_order v_admitted v_made v_worth v_set v_pipes v_days v_stops w_gains w_worths_18) → va_S A s.heap H locs → ∀ ls : Array Slot, lv_has ls 6 [(0, .ref q_this), (1, .int a1), (2, .int a2), (3, .int o_1), (4, .int (a1 &&& (o_7 ^^^ (-1 : Int32)))), (5, .int x5_18)] → it (fun s : Int32 × (Nat → Int64) => shX1_weighSet_L18 a1 a2 w_gains o_1 o_7 s.1 s.2) n (x5_18, w_worths_18) = some r_18 → W p l e rmX1_weighSet s m args below meth c H locs 0 0 Q (F0 m 18 ls []) := by
    intro n
    induction n with
    | zero => exact fun _ _ _ _ _ _ _ _ _ hi => it_0 hi
    | succ n ih_18 =>
      intro x5_18 w_worths_18 H locs hP hD hS ls hl hi
      obtain ⟨b_18, hsh, hB1_18, hB2_18⟩ := it_b hi
      replace hsh : shX1_weighSet_L18 a1 a2 w_gains o_1 o_7 x5_18 w_worths_18 = some b_18 := hsh
      unfold shX1_weighSet_L18 at hsh
      refine lv_iload hx hb dX1_weighSet_18 (lv_at hl 5 rfl) ?_
      refine lv_iload_n hx hb dX1_weighSet_20 rfl (lv_at hl 2 rfl) ?_
      refine lv_icmp_gt (tgt := 51) hx hb dX1_weighSet_21 (by decide) (fun c1 => ?_) (fun c1 => ?_)
      · skip
        have hsh := ite_t hsh c1
        have he := hB2_18 _ hsh
        rw [← he] at hk_18
        exact Jj_51 w_worths_18 H locs hP hD hS ls (lv_sub hl [] rfl) hk_18
      · skip
        have hsh := ite_f hsh c1
        refine lv_aload_n hx hb dX1_weighSet_24 rfl (lv_at hl 0 rfl) ?_
        refine kget (ci := 1) S hK hP rfl inX1_weighSet_X1 0 rfl 4 (by decide) lkX1_weighSet_32 rfl dX1_weighSet_25 ?_
        refine lv_iload_n hx hb dX1_weighSet_28 rfl (lv_at hl 1 rfl) ?_
        refine lv_bipush (v := (29 : Int32)) hx hb dX1_weighSet_29 (by decide) ?_
        refine lv_imul hx hb dX1_weighSet_31 ?_
        refine lv_iload hx hb dX1_weighSet_32 (lv_at hl 5 rfl) ?_
        refine lv_iadd hx hb dX1_weighSet_34 ?_
        refine lv_aload_n hx hb dX1_weighSet_35 rfl (lv_at hl 0 rfl) ?_
        refine lv_iload hx hb dX1_weighSet_36 (lv_at hl 4 rfl) ?_
        refine lv_iload hx hb dX1_weighSet_38 (lv_at hl 5 rfl) ?_
        refine lv_iload_n hx hb dX1_weighSet_40 rfl (lv_at hl 3 rfl) ?_
        obtain ⟨o_41, he, hsh⟩ := bd hsh
        refine kVl (ci := 1) S hK hA (ctX1_greatest l D cI cJ cZ q_this q_gains q_roads q_steps q_worths q_depths q_rivals q_order v_admitted v_made v_worth v_set v_pipes v_days v_stops w_gains w_worths_18 (a1 &&& (o_7 ^^^ (-1 : Int32))) x5_18 o_1 o_41 he) noE_cl (cwV 3 hts gX1_weighSet_X1_greatest rfl rfl rfl hdX1_greatest ⟨Nat.le_of_ble_eq_true rfl, Nat.le_of_ble_eq_true rfl⟩) rfl 0 rfl [0, 1, 2] [] [0, 1, 2] (ws' := (wdX1_weighSet cI cJ cZ q_this q_gains q_roads q_steps q_worths q_depths q_rivals q_order v_admitted v_made v_worth v_set v_pipes v_days v_stops w_gains w_worths_18)) ⟨rfl, rfl, rfl, rfl, rfl, rfl, rfl⟩ trivial rfl hl.1 rfl (Nat.le_of_ble_eq_true rfl) dX1_weighSet_41 hP hD hS (fun H locs hP hD hS => ?_)
        obtain ⟨_, hg, hsh⟩ := bd hsh
        refine klas S hK hP hD hS 2 1 rfl rfl (gd_in hg) (ws' := (wdX1_weighSet cI cJ cZ q_this q_gains q_roads q_steps q_worths q_depths q_rivals q_order v_admitted v_made v_worth v_set v_pipes v_days v_stops w_gains (vp_updL w_worths_18 (((a1 * (29 : Int32)) + x5_18)).toNatClampNeg o_41))) rfl dX1_weighSet_44 (fun H locs hP hD hS => ?_)
        refine lv_iinc (v := (x5_18 + (1 : Int32))) (lv' := [(5, .int (x5_18 + (1 : Int32))), (0, .ref q_this), (1, .int a1), (2, .int a2), (3, .int o_1), (4, .int (a1 &&& (o_7 ^^^ (-1 : Int32))))]) hx hb dX1_weighSet_45 hl (k := 5) rfl (congrArg (fun z : Int32 => x5_18 + z) (by decide)) (by decide) rfl (fun ls hl => ?_)
        refine lv_goto (tgt := 18) hx hb dX1_weighSet_48 (by decide) ?_
        exact ih_18 (x5_18 + (1 : Int32)) (vp_updL w_worths_18 (((a1 * (29 : Int32)) + x5_18)).toNatClampNeg o_41) H locs hP hD hS ls (lv_sub hl [1, 2, 3, 4, 5, 0] rfl) (hB1_18 _ hsh)
  exact L_18 n_18 (0 : Int32) w_worths H locs hP hD hS ls (lv_sub hl [3, 4, 5, 2, 1, 0] rfl) hn_18

/-! DryWells$Planner.weighDepths -/
noncomputable def shX1_weighDepths_j_60 (w_worths_j_60 : Nat → Int64) : Option ((Nat → Int64)) :=
  some w_worths_j_60
noncomputable def shX1_weighDepths_k32_54 (x2_32 : Int32) (w_worths_k32_54 : Nat → Int64) : Option ((Int32 × (Nat → Int64)) ⊕ (((Nat → Int64)))) :=
  some (Sum.inl ((x2_32 + (1 : Int32)), w_worths_k32_54))
noncomputable def shX1_weighDepths_L32 (a1 : Int32) (v_admitted : Int32) (w_gains : Nat → Int64) (x2_32 : Int32) (w_worths_32 : Nat → Int64) : Option ((Int32 × (Nat → Int64)) ⊕ (((Nat → Int64)))) :=
  (if v_admitted < x2_32 then some (Sum.inr w_worths_32) else ((shX1_isAdmitted x2_32 v_admitted).bind fun o_42 => (if o_42 = 0 then (shX1_weighDepths_k32_54 x2_32 w_worths_32) else ((shX1_weighSet x2_32 a1 w_gains w_worths_32).bind fun o_51 => (shX1_weighDepths_k32_54 x2_32 o_51)))))
noncomputable def shX1_weighDepths_j_30 (a1 : Int32) (v_admitted : Int32) (w_gains : Nat → Int64) (w_worths_j_30 : Nat → Int64) : Option ((Nat → Int64)) :=
  ((lp (fun s : Int32 × (Nat → Int64) => shX1_weighDepths_L32 a1 v_admitted w_gains s.1 s.2) ((1 : Int32), w_worths_j_30)).bind (fun p : (Nat → Int64) => shX1_weighDepths_j_60 p))
noncomputable def shX1_weighDepths_k2_23 (x2_2 : Int32) (w_worths_2 : Nat → Int64) (s1_k2_23 : Int32) (s2_k2_23 : Int64) : Option ((Int32 × (Nat → Int64)) ⊕ (((Nat → Int64)))) :=
  ((gd s1_k2_23 3712).bind fun _ => some (Sum.inl ((x2_2 + (1 : Int32)), (vp_updL w_worths_2 (s1_k2_23).toNatClampNeg s2_k2_23))))
noncomputable def shX1_weighDepths_L2 (a1 : Int32) (x2_2 : Int32) (w_worths_2 : Nat → Int64) : Option ((Int32 × (Nat → Int64)) ⊕ (((Nat → Int64)))) :=
  (if a1 < x2_2 then some (Sum.inr w_worths_2) else (if ¬ x2_2 = 0 then (shX1_weighDepths_k2_23 x2_2 w_worths_2 x2_2 (-1 : Int64)) else (shX1_weighDepths_k2_23 x2_2 w_worths_2 x2_2 (0 : Int64))))
noncomputable def shX1_weighDepths (a1 : Int32) (v_admitted : Int32) (w_gains : Nat → Int64) (w_worths : Nat → Int64) : Option ((Nat → Int64)) :=
  ((lp (fun s : Int32 × (Nat → Int64) => shX1_weighDepths_L2 a1 s.1 s.2) ((0 : Int32), w_worths)).bind (fun p : (Nat → Int64) => shX1_weighDepths_j_30 a1 v_admitted w_gains p))
def wdX1_weighDepths (cI cJ cZ : ClassId) (q_this q_gains q_roads q_steps q_worths q_depths q_rivals q_order : Nat) (v_admitted : Int32) (v_made : Int32) (v_worth : Int64) (v_set : Int32) (v_pipes : Int32) (v_days : Int32) (v_stops : Int32) (w_gains : Nat → Int64) (w_worths : Nat → Int64) : va_W := [(q_this, .inr (1, [.int v_admitted, .ref q_gains, .ref q_roads, .ref q_steps, .ref q_worths, .int v_made, .long v_worth, .int v_set, .int v_pipes, .int v_days, .int v_stops, .ref q_depths, .ref q_rivals, .ref q_order])), (q_gains, .inl (cJ, 40, .inr (.inl w_gains))), (q_worths, .inl (cJ, 3712, .inr (.inl w_worths)))]
abbrev rmX1_weighDepths : Room := { frames := 3, cells := 0, slots := 0, locals := 77 }
theorem inX1_weighDepths_X1 : ∀ w ∈ u_ws RX1 TX1 14, w ∈ wsX1_weighDepths := fun _ h => List.mem_cons_of_mem _ (List.mem_append_right _ h)
theorem lkX1_weighDepths_15 : Cond.fieldLink RX1 15 (TX1 0).1 (TX1 0).2.1 (TX1 0).2.2.1 ∈ wsX1_weighDepths := List.mem_of_getElem? (i := 3) rfl
theorem lkX1_weighDepths_32 : Cond.fieldLink RX1 32 (TX1 4).1 (TX1 4).2.1 (TX1 4).2.2.1 ∈ wsX1_weighDepths := List.mem_of_getElem? (i := 1) rfl
theorem hdX1_weighDepths : yX1_weighDepths.cls = RX1 ∧ yX1_weighDepths.cls ≠ "java/lang/invoke/MethodHandle" ∧ yX1_weighDepths.cls ≠ "java/lang/invoke/VarHandle" ∧ (parseMethodDescriptor yX1_weighDepths.desc).map (fun d => d.parameters.length) = some 1 := by decide +kernel
set_option maxHeartbeats 4000000 in
set_option maxRecDepth 100000 in
theorem ctX1_weighDepths (l : Launch) (D : va_G) (cI cJ cZ : ClassId) (q_this q_gains q_roads q_steps q_worths q_depths q_rivals q_order : Nat) (v_admitted : Int32) (v_made : Int32) (v_worth : Int64) (v_set : Int32) (v_pipes : Int32) (v_days : Int32) (v_stops : Int32) (w_gains : Nat → Int64) (w_worths : Nat → Int64) (a1 : Int32) (o : (Nat → Int64)) (hsh : shX1_weighDepths a1 v_admitted w_gains w_worths = some o) : CtV l yX1_weighDepths wsX1_weighDepths rmX1_weighDepths D (tys3 cI cJ cZ) noE (wdX1_weighDepths cI cJ cZ q_this q_gains q_roads q_steps q_worths q_depths q_rivals q_order v_admitted v_made v_worth v_set v_pipes v_days v_stops w_gains w_worths) [.ref q_this, .int a1]  (wdX1_weighDepths cI cJ cZ q_this q_gains q_roads q_steps q_worths q_depths q_rivals q_order v_admitted v_made v_worth v_set v_pipes v_days v_stops w_gains o) := by
  refine ctV plX1 rfl (Nat.le_of_ble_eq_true rfl) ?_
  intro p e s m below meth c A Q S hK hA hE hret H locs hP hD hS ls hl
  replace S : CallFix p m c cX1_weighDepths 3 s _ wsX1_weighDepths RX1 := S
  generalize ([.ref q_this, .int a1] : List Value).toArray = args at S hret ⊢
  obtain ⟨hx, hb, hml, hown, hts⟩ := id S
  replace hl : lv_has ls 3 [(0, .ref q_this), (1, .int a1)] := hl
  unfold shX1_weighDepths at hsh
  have Jj_60 : ∀ (w_worths_j_60 : Nat → Int64) (H : Heap) (locs : List Loc), va_P D vwCl (wdX1_weighDepths cI cJ cZ q_this q_gains q_roads q_steps q_worths q_depths q_rivals q_order v_admitted v_made v_worth v_set v_pipes v_days v_stops w_gains w_worths_j_60) H → va_D A (wdX1_weighDepths cI cJ cZ q_this q_gains q_roads q_steps q_worths q_depths q_rivals q_order v_admitted v_made v_worth v_set v_pipes v_days v_stops w_gains w_worths_j_60) → va_S A s.heap H locs → ∀ ls : Array Slot, lv_has ls 3 [] → shX1_weighDepths_j_60 w_worths_j_60 = some o → W p l e rmX1_weighDepths s m args below meth c H locs 0 0 Q (F0 m 60 ls []) := by
    intro w_worths_j_60 H locs hP hD hS ls hl hsh
    unfold shX1_weighDepths_j_60 at hsh
    have ho := Option.some.inj hsh
    rw [← ho] at hret
    exact hret _ _ _ _ dX1_weighDepths_60 hP hD hS
  have Jj_30 : ∀ (w_worths_j_30 : Nat → Int64) (H : Heap) (locs : List Loc), va_P D vwCl (wdX1_weighDepths cI cJ cZ q_this q_gains q_roads q_steps q_worths q_depths q_rivals q_order v_admitted v_made v_worth v_set v_pipes v_days v_stops w_gains w_worths_j_30) H → va_D A (wdX1_weighDepths cI cJ cZ q_this q_gains q_roads q_steps q_worths q_depths q_rivals q_order v_admitted v_made v_worth v_set v_pipes v_days v_stops w_gains w_worths_j_30) → va_S A s.heap H locs → ∀ ls : Array Slot, lv_has ls 3 [(0, .ref q_this), (1, .int a1)] → shX1_weighDepths_j_30 a1 v_admitted w_gains w_worths_j_30 = some o → W p l e rmX1_weighDepths s m args below meth c H locs 0 0 Q (F0 m 30 ls []) := by
    intro w_worths_j_30 H locs hP hD hS ls hl hsh
    unfold shX1_weighDepths_j_30 at hsh
    refine lv_iconst (v := (1 : Int32)) hx hb dX1_weighDepths_30 (by decide) ?_
    refine lv_istore_n (lv' := [(2, .int (1 : Int32)), (0, .ref q_this), (1, .int a1)]) hx hb dX1_weighDepths_31 rfl hl (by decide) rfl (fun ls hl => ?_)
    obtain ⟨r_32, hl_32, hk_32⟩ := bd hsh
    obtain ⟨n_32, hn_32⟩ := lp_iff.mp hl_32
    have L_32 : ∀ (n : Nat) (x2_32 : Int32) (w_worths_32 : Nat → Int64) (H : Heap) (locs : List Loc), va_P D vwCl (wdX1_weighDepths cI cJ cZ q_this q_gains q_roads q_steps q_worths q_depths q_rivals q_order v_admitted v_made v_worth v_set v_pipes v_days v_stops w_gains w_worths_32) H → va_D A (wdX1_weighDepths cI cJ cZ q_this q_gains q_roads q_steps q_worths q_depths q_rivals q_order v_admitted v_made v_worth v_set v_pipes v_days v_stops w_gains w_worths_32) → va_S A s.heap H locs → ∀ ls : Array Slot, lv_has ls 3 [(0, .ref q_this), (1, .int a1), (2, .int x2_32)] → it (fun s : Int32 × (Nat → Int64) => shX1_weighDepths_L32 a1 v_admitted w_gains s.1 s.2) n (x2_32, w_worths_32) = some r_32 → W p l e rmX1_weighDepths s m args below meth c H locs 0 0 Q (F0 m 32 ls []) := by
      intro n
      induction n with
      | zero => exact fun _ _ _ _ _ _ _ _ _ hi => it_0 hi
      | succ n ih_32 =>
        intro x2_32 w_worths_32 H locs hP hD hS ls hl hi
        obtain ⟨b_32, hsh, hB1_32, hB2_32⟩ := it_b hi
        replace hsh : shX1_weighDepths_L32 a1 v_admitted w_gains x2_32 w_worths_32 = some b_32 := hsh
        unfold shX1_weighDepths_L32 at hsh
        have Jk32_54 : ∀ (w_worths_k32_54 : Nat → Int64) (H : Heap) (locs : List Loc), va_P D vwCl (wdX1_weighDepths cI cJ cZ q_this q_gains q_roads q_steps q_worths q_depths q_rivals q_order v_admitted v_made v_worth v_set v_pipes v_days v_stops w_gains w_worths_k32_54) H → va_D A (wdX1_weighDepths cI cJ cZ q_this q_gains q_roads q_steps q_worths q_depths q_rivals q_order v_admitted v_made v_worth v_set v_pipes v_days v_stops w_gains w_worths_k32_54) → va_S A s.heap H locs → ∀ ls : Array Slot, lv_has ls 3 [(0, .ref q_this), (1, .int a1), (2, .int x2_32)] → shX1_weighDepths_k32_54 x2_32 w_worths_k32_54 = some b_32 → W p l e rmX1_weighDepths s m args below meth c H locs 0 0 Q (F0 m 54 ls []) := by
          intro w_worths_k32_54 H locs hP hD hS ls hl hsh
          unfold shX1_weighDepths_k32_54 at hsh
          refine lv_iinc (v := (x2_32 + (1 : Int32))) (lv' := [(2, .int (x2_32 + (1 : Int32))), (0, .ref q_this), (1, .int a1)]) hx hb dX1_weighDepths_54 hl (k := 2) rfl (congrArg (fun z : Int32 => x2_32 + z) (by decide)) (by decide) rfl (fun ls hl => ?_)
          refine lv_goto (tgt := 32) hx hb dX1_weighDepths_57 (by decide) ?_
          exact ih_32 (x2_32 + (1 : Int32)) w_worths_k32_54 H locs hP hD hS ls (lv_sub hl [1, 2, 0] rfl) (hB1_32 _ hsh)
        refine lv_iload_n hx hb dX1_weighDepths_32 rfl (lv_at hl 2 rfl) ?_
        refine lv_aload_n hx hb dX1_weighDepths_33 rfl (lv_at hl 0 rfl) ?_
        refine kget (ci := 1) S hK hP rfl inX1_weighDepths_X1 0 rfl 0 (by decide) lkX1_weighDepths_15 rfl dX1_weighDepths_34 ?_
        refine lv_icmp_gt (tgt := 60) hx hb dX1_weighDepths_37 (by decide) (fun c1 => ?_) (fun c1 => ?_)
        · skip
          have hsh := ite_t hsh c1
          have he := hB2_32 _ hsh
          rw [← he] at hk_32
          exact Jj_60 w_worths_32 H locs hP hD hS ls (lv_sub hl [] rfl) hk_32
        · skip
          have hsh := ite_f hsh c1
          refine lv_aload_n hx hb dX1_weighDepths_40 rfl (lv_at hl 0 rfl) ?_
          refine lv_iload_n hx hb dX1_weighDepths_41 rfl (lv_at hl 2 rfl) ?_
          obtain ⟨o_42, he, hsh⟩ := bd hsh
          refine kVi (ci := 1) S hK hA (ctX1_isAdmitted l D cI cJ cZ q_this q_gains q_roads q_steps q_worths q_depths q_rivals q_order v_admitted v_made v_worth v_set v_pipes v_days v_stops x2_32 o_42 he) noE_cl (cwV 1 hts gX1_weighDepths_X1_isAdmitted rfl rfl rfl hdX1_isAdmitted ⟨Nat.le_of_ble_eq_true rfl, Nat.le_of_ble_eq_true rfl⟩) rfl 0 rfl [0] [1, 2] [2, 0, 1] (ws' := (wdX1_weighDepths cI cJ cZ q_this q_gains q_roads q_steps q_worths q_depths q_rivals q_order v_admitted v_made v_worth v_set v_pipes v_days v_stops w_gains w_worths_32)) ⟨rfl, rfl, rfl, rfl, rfl, rfl, rfl⟩ trivial rfl hl.1 rfl (Nat.le_of_ble_eq_true rfl) dX1_weighDepths_42 hP hD hS (fun H locs hP hD hS => ?_)
          refine lv_if_eq (tgt := 54) hx hb dX1_weighDepths_45 (by decide) (fun c1 => ?_) (fun c1 => ?_)
          · skip
            have hsh := ite_t hsh c1
            exact Jk32_54 w_worths_32 H locs hP hD hS ls (lv_sub hl [0, 1, 2] rfl) hsh
          · skip
            have hsh := ite_f hsh c1
            refine lv_aload_n hx hb dX1_weighDepths_48 rfl (lv_at hl 0 rfl) ?_
            refine lv_iload_n hx hb dX1_weighDepths_49 rfl (lv_at hl 2 rfl) ?_
            refine lv_iload_n hx hb dX1_weighDepths_50 rfl (lv_at hl 1 rfl) ?_
            obtain ⟨o_51, he, hsh⟩ := bd hsh
            refine kVv (ci := 1) S hK hA (ctX1_weighSet l D cI cJ cZ q_this q_gains q_roads q_steps q_worths q_depths q_rivals q_order v_admitted v_made v_worth v_set v_pipes v_days v_stops w_gains w_worths_32 x2_32 a1 o_51 he) noE_cl (cwV 2 hts gX1_weighDepths_X1_weighSet rfl rfl rfl hdX1_weighSet ⟨Nat.le_of_ble_eq_true rfl, Nat.le_of_ble_eq_true rfl⟩) rfl 0 rfl [0, 1, 2] [] [0, 1, 2] (ws' := (wdX1_weighDepths cI cJ cZ q_this q_gains q_roads q_steps q_worths q_depths q_rivals q_order v_admitted v_made v_worth v_set v_pipes v_days v_stops w_gains o_51)) ⟨rfl, rfl, rfl, rfl, rfl, rfl, rfl⟩ trivial rfl hl.1 rfl (Nat.le_of_ble_eq_true rfl) dX1_weighDepths_51 hP hD hS (fun H locs hP hD hS => ?_)
            exact Jk32_54 o_51 H locs hP hD hS ls (lv_sub hl [0, 1, 2] rfl) hsh
    exact L_32 n_32 (1 : Int32) w_worths_j_30 H locs hP hD hS ls (lv_sub hl [1, 2, 0] rfl) hn_32
  refine lv_iconst (v := (0 : Int32)) hx hb dX1_weighDepths_0 (by decide) ?_
  refine lv_istore_n (lv' := [(2, .int (0 : Int32)), (0, .ref q_this), (1, .int a1)]) hx hb dX1_weighDepths_1 rfl hl (by decide) rfl (fun ls hl => ?_)
  obtain ⟨r_2, hl_2, hk_2⟩ := bd hsh
  obtain ⟨n_2, hn_2⟩ := lp_iff.mp hl_2
  have L_2 : ∀ (n : Nat) (x2_2 : Int32) (w_worths_2 : Nat → Int64) (H : Heap) (locs : List Loc), va_P D vwCl (wdX1_weighDepths cI cJ cZ q_this q_gains q_roads q_steps q_worths q_depths q_rivals q_order v_admitted v_made v_worth v_set v_pipes v_days v_stops w_gains w_worths_2) H → va_D A (wdX1_weighDepths cI cJ cZ q_this q_gains q_roads q_steps q_worths q_depths q_rivals q_order v_admitted v_made v_worth v_set v_pipes v_days v_stops w_gains w_worths_2) → va_S A s.heap H locs → ∀ ls : Array Slot, lv_has ls 3 [(0, .ref q_this), (1, .int a1), (2, .int x2_2)] → it (fun s : Int32 × (Nat → Int64) => shX1_weighDepths_L2 a1 s.1 s.2) n (x2_2, w_worths_2) = some r_2 → W p l e rmX1_weighDepths s m args below meth c H locs 0 0 Q (F0 m 2 ls []) := by
    intro n
    induction n with
    | zero => exact fun _ _ _ _ _ _ _ _ _ hi => it_0 hi
    | succ n ih_2 =>
      intro x2_2 w_worths_2 H locs hP hD hS ls hl hi
      obtain ⟨b_2, hsh, hB1_2, hB2_2⟩ := it_b hi
      replace hsh : shX1_weighDepths_L2 a1 x2_2 w_worths_2 = some b_2 := hsh
      unfold shX1_weighDepths_L2 at hsh
      have Jk2_23 : ∀ (s1_k2_23 : Int32) (s2_k2_23 : Int64) (H : Heap) (locs : List Loc), va_P D vwCl (wdX1_weighDepths cI cJ cZ q_this q_gains q_roads q_steps q_worths q_depths q_rivals q_order v_admitted v_made v_worth v_set v_pipes v_days v_stops w_gains w_worths_2) H → va_D A (wdX1_weighDepths cI cJ cZ q_this q_gains q_roads q_steps q_worths q_depths q_rivals q_order v_admitted v_made v_worth v_set v_pipes v_days v_stops w_gains w_worths_2) → va_S A s.heap H locs → ∀ ls : Array Slot, lv_has ls 3 [(0, .ref q_this), (1, .int a1), (2, .int x2_2)] → shX1_weighDepths_k2_23 x2_2 w_worths_2 s1_k2_23 s2_k2_23 = some b_2 → W p l e rmX1_weighDepths s m args below meth c H locs 0 0 Q (F0 m 23 ls [.long s2_k2_23, .int s1_k2_23, .ref q_worths]) := by
        intro s1_k2_23 s2_k2_23 H locs hP hD hS ls hl hsh
        unfold shX1_weighDepths_k2_23 at hsh
        obtain ⟨_, hg, hsh⟩ := bd hsh
        refine klas S hK hP hD hS 2 1 rfl rfl (gd_in hg) (ws' := (wdX1_weighDepths cI cJ cZ q_this q_gains q_roads q_steps q_worths q_depths q_rivals q_order v_admitted v_made v_worth v_set v_pipes v_days v_stops w_gains (vp_updL w_worths_2 (s1_k2_23).toNatClampNeg s2_k2_23))) rfl dX1_weighDepths_23 (fun H locs hP hD hS => ?_)
        refine lv_iinc (v := (x2_2 + (1 : Int32))) (lv' := [(2, .int (x2_2 + (1 : Int32))), (0, .ref q_this), (1, .int a1)]) hx hb dX1_weighDepths_24 hl (k := 2) rfl (congrArg (fun z : Int32 => x2_2 + z) (by decide)) (by decide) rfl (fun ls hl => ?_)
        refine lv_goto (tgt := 2) hx hb dX1_weighDepths_27 (by decide) ?_
        exact ih_2 (x2_2 + (1 : Int32)) (vp_updL w_worths_2 (s1_k2_23).toNatClampNeg s2_k2_23) H locs hP hD hS ls (lv_sub hl [1, 2, 0] rfl) (hB1_2 _ hsh)
      refine lv_iload_n hx hb dX1_weighDepths_2 rfl (lv_at hl 2 rfl) ?_
      refine lv_iload_n hx hb dX1_weighDepths_3 rfl (lv_at hl 1 rfl) ?_
      refine lv_icmp_gt (tgt := 30) hx hb dX1_weighDepths_4 (by decide) (fun c1 => ?_) (fun c1 => ?_)
      · skip
        have hsh := ite_t hsh c1
        have he := hB2_2 _ hsh
        rw [← he] at hk_2
        exact Jj_30 w_worths_2 H locs hP hD hS ls (lv_sub hl [0, 1] rfl) hk_2
      · skip
        have hsh := ite_f hsh c1
        refine lv_aload_n hx hb dX1_weighDepths_7 rfl (lv_at hl 0 rfl) ?_
        refine kget (ci := 1) S hK hP rfl inX1_weighDepths_X1 0 rfl 4 (by decide) lkX1_weighDepths_32 rfl dX1_weighDepths_8 ?_
        refine lv_iload_n hx hb dX1_weighDepths_11 rfl (lv_at hl 2 rfl) ?_
        refine lv_iload_n hx hb dX1_weighDepths_12 rfl (lv_at hl 2 rfl) ?_
        refine lv_if_ne (tgt := 20) hx hb dX1_weighDepths_13 (by decide) (fun c1 => ?_) (fun c1 => ?_)
        · skip
          have hsh := ite_t hsh c1
          refine lv_ldc2 hx hb hown (v := (-1 : Int64)) (hts _ (List.mem_of_getElem? (i := 2) rfl)) dX1_weighDepths_20 ?_
          exact Jk2_23 x2_2 (-1 : Int64) H locs hP hD hS ls (lv_sub hl [0, 1, 2] rfl) hsh
        · skip
          have hsh := ite_f hsh (fun h => h c1)
          refine lv_lconst (v := (0 : Int64)) hx hb dX1_weighDepths_16 (by decide) ?_
          refine lv_goto (tgt := 23) hx hb dX1_weighDepths_17 (by decide) ?_
          exact Jk2_23 x2_2 (0 : Int64) H locs hP hD hS ls (lv_sub hl [0, 1, 2] rfl) hsh
  exact L_2 n_2 (0 : Int32) w_worths H locs hP hD hS ls (lv_sub hl [1, 2, 0] rfl) hn_2

/-! java/lang/Integer.bitCount -/
noncomputable def shJ6_bitCount_0f7a4 (a0 : Int32) : Option (Int32) :=
  some ((((((((a0 - (((a0).toUInt32 >>> (((1 : Int32)).toUInt32 &&& Int32.toUInt32 31)).toInt32 &&& (1431655765 : Int32))) &&& (858993459 : Int32)) + ((((a0 - (((a0).toUInt32 >>> (((1 : Int32)).toUInt32 &&& Int32.toUInt32 31)).toInt32 &&& (1431655765 : Int32)))).toUInt32 >>> (((2 : Int32)).toUInt32 &&& Int32.toUInt32 31)).toInt32 &&& (858993459 : Int32))) + (((((a0 - (((a0).toUInt32 >>> (((1 : Int32)).toUInt32 &&& Int32.toUInt32 31)).toInt32 &&& (1431655765 : Int32))) &&& (858993459 : Int32)) + ((((a0 - (((a0).toUInt32 >>> (((1 : Int32)).toUInt32 &&& Int32.toUInt32 31)).toInt32 &&& (1431655765 : Int32)))).toUInt32 >>> (((2 : Int32)).toUInt32 &&& Int32.toUInt32 31)).toInt32 &&& (858993459 : Int32)))).toUInt32 >>> (((4 : Int32)).toUInt32 &&& Int32.toUInt32 31)).toInt32) &&& (252645135 : Int32)) + (((((((a0 - (((a0).toUInt32 >>> (((1 : Int32)).toUInt32 &&& Int32.toUInt32 31)).toInt32 &&& (1431655765 : Int32))) &&& (858993459 : Int32)) + ((((a0 - (((a0).toUInt32 >>> (((1 : Int32)).toUInt32 &&& Int32.toUInt32 31)).toInt32 &&& (1431655765 : Int32)))).toUInt32 >>> (((2 : Int32)).toUInt32 &&& Int32.toUInt32 31)).toInt32 &&& (858993459 : Int32))) + (((((a0 - (((a0).toUInt32 >>> (((1 : Int32)).toUInt32 &&& Int32.toUInt32 31)).toInt32 &&& (1431655765 : Int32))) &&& (858993459 : Int32)) + ((((a0 - (((a0).toUInt32 >>> (((1 : Int32)).toUInt32 &&& Int32.toUInt32 31)).toInt32 &&& (1431655765 : Int32)))).toUInt32 >>> (((2 : Int32)).toUInt32 &&& Int32.toUInt32 31)).toInt32 &&& (858993459 : Int32)))).toUInt32 >>> (((4 : Int32)).toUInt32 &&& Int32.toUInt32 31)).toInt32) &&& (252645135 : Int32))).toUInt32 >>> (((8 : Int32)).toUInt32 &&& Int32.toUInt32 31)).toInt32) + ((((((((a0 - (((a0).toUInt32 >>> (((1 : Int32)).toUInt32 &&& Int32.toUInt32 31)).toInt32 &&& (1431655765 : Int32))) &&& (858993459 : Int32)) + ((((a0 - (((a0).toUInt32 >>> (((1 : Int32)).toUInt32 &&& Int32.toUInt32 31)).toInt32 &&& (1431655765 : Int32)))).toUInt32 >>> (((2 : Int32)).toUInt32 &&& Int32.toUInt32 31)).toInt32 &&& (858993459 : Int32))) + (((((a0 - (((a0).toUInt32 >>> (((1 : Int32)).toUInt32 &&& Int32.toUInt32 31)).toInt32 &&& (1431655765 : Int32))) &&& (858993459 : Int32)) + ((((a0 - (((a0).toUInt32 >>> (((1 : Int32)).toUInt32 &&& Int32.toUInt32 31)).toInt32 &&& (1431655765 : Int32)))).toUInt32 >>> (((2 : Int32)).toUInt32 &&& Int32.toUInt32 31)).toInt32 &&& (858993459 : Int32)))).toUInt32 >>> (((4 : Int32)).toUInt32 &&& Int32.toUInt32 31)).toInt32) &&& (252645135 : Int32)) + (((((((a0 - (((a0).toUInt32 >>> (((1 : Int32)).toUInt32 &&& Int32.toUInt32 31)).toInt32 &&& (1431655765 : Int32))) &&& (858993459 : Int32)) + ((((a0 - (((a0).toUInt32 >>> (((1 : Int32)).toUInt32 &&& Int32.toUInt32 31)).toInt32 &&& (1431655765 : Int32)))).toUInt32 >>> (((2 : Int32)).toUInt32 &&& Int32.toUInt32 31)).toInt32 &&& (858993459 : Int32))) + (((((a0 - (((a0).toUInt32 >>> (((1 : Int32)).toUInt32 &&& Int32.toUInt32 31)).toInt32 &&& (1431655765 : Int32))) &&& (858993459 : Int32)) + ((((a0 - (((a0).toUInt32 >>> (((1 : Int32)).toUInt32 &&& Int32.toUInt32 31)).toInt32 &&& (1431655765 : Int32)))).toUInt32 >>> (((2 : Int32)).toUInt32 &&& Int32.toUInt32 31)).toInt32 &&& (858993459 : Int32)))).toUInt32 >>> (((4 : Int32)).toUInt32 &&& Int32.toUInt32 31)).toInt32) &&& (252645135 : Int32))).toUInt32 >>> (((8 : Int32)).toUInt32 &&& Int32.toUInt32 31)).toInt32)).toUInt32 >>> (((16 : Int32)).toUInt32 &&& Int32.toUInt32 31)).toInt32) &&& (63 : Int32))
def wdJ6_bitCount_0f7a4 (cI cJ cZ : ClassId)   : va_W := []
abbrev rmJ6_bitCount_0f7a4 : Room := { frames := 0, cells := 0, slots := 0, locals := 0 }
theorem hdJ6_bitCount_0f7a4 : yJ6_bitCount_0f7a4.cls ≠ "java/lang/invoke/MethodHandle" ∧ yJ6_bitCount_0f7a4.cls ≠ "java/lang/invoke/VarHandle" ∧ (parseMethodDescriptor yJ6_bitCount_0f7a4.desc).map (fun d => d.parameters.length) = some 1 := by decide +kernel
set_option maxHeartbeats 4000000 in
set_option maxRecDepth 100000 in
theorem ctJ6_bitCount_0f7a4 (l : Launch) (D : va_G) (cI cJ cZ : ClassId)  (a0 : Int32) (o : Int32) (hsh : shJ6_bitCount_0f7a4 a0 = some o) : CtI l yJ6_bitCount_0f7a4 wsJ6_bitCount_0f7a4 rmJ6_bitCount_0f7a4 D (tys3 cI cJ cZ) noE (wdJ6_bitCount_0f7a4 cI cJ cZ ) [.int a0] o (wdJ6_bitCount_0f7a4 cI cJ cZ ) := by
  refine ctI plJ6 rfl (Nat.le_of_ble_eq_true rfl) ?_
  intro p e s m below meth c A Q S hK hA hE hret H locs hP hD hS ls hl
  replace S : CallFix p m c cJ6_bitCount_0f7a4 1 s _ wsJ6_bitCount_0f7a4 RJ6 := S
  generalize ([.int a0] : List Value).toArray = args at S hret ⊢
  obtain ⟨hx, hb, hml, hown, hts⟩ := id S
  replace hl : lv_has ls 1 [(0, .int a0)] := hl
  unfold shJ6_bitCount_0f7a4 at hsh
  refine lv_iload_n hx hb dJ6_bitCount_0f7a4_0 rfl (lv_at hl 0 rfl) ?_
  refine lv_iload_n hx hb dJ6_bitCount_0f7a4_1 rfl (lv_at hl 0 rfl) ?_
  refine lv_iconst (v := (1 : Int32)) hx hb dJ6_bitCount_0f7a4_2 (by decide) ?_
  refine lv_iushr hx hb dJ6_bitCount_0f7a4_3 rfl ?_
  refine lv_ldcw hx hb hown (v := (1431655765 : Int32)) (hts _ (List.mem_of_getElem? (i := 1) rfl)) dJ6_bitCount_0f7a4_4 ?_
  refine lv_iand hx hb dJ6_bitCount_0f7a4_7 ?_
  refine lv_isub hx hb dJ6_bitCount_0f7a4_8 ?_
  refine lv_istore_n (lv' := [(0, .int (a0 - (((a0).toUInt32 >>> (((1 : Int32)).toUInt32 &&& Int32.toUInt32 31)).toInt32 &&& (1431655765 : Int32))))]) hx hb dJ6_bitCount_0f7a4_9 rfl hl (by decide) rfl (fun ls hl => ?_)
  refine lv_iload_n hx hb dJ6_bitCount_0f7a4_10 rfl (lv_at hl 0 rfl) ?_
  refine lv_ldcw hx hb hown (v := (858993459 : Int32)) (hts _ (List.mem_of_getElem? (i := 2) rfl)) dJ6_bitCount_0f7a4_11 ?_
  refine lv_iand hx hb dJ6_bitCount_0f7a4_14 ?_
  refine lv_iload_n hx hb dJ6_bitCount_0f7a4_15 rfl (lv_at hl 0 rfl) ?_
  refine lv_iconst (v := (2 : Int32)) hx hb dJ6_bitCount_0f7a4_16 (by decide) ?_
  refine lv_iushr hx hb dJ6_bitCount_0f7a4_17 rfl ?_
  refine lv_ldcw hx hb hown (v := (858993459 : Int32)) (hts _ (List.mem_of_getElem? (i := 2) rfl)) dJ6_bitCount_0f7a4_18 ?_
  refine lv_iand hx hb dJ6_bitCount_0f7a4_21 ?_
  refine lv_iadd hx hb dJ6_bitCount_0f7a4_22 ?_
  refine lv_istore_n (lv' := [(0, .int (((a0 - (((a0).toUInt32 >>> (((1 : Int32)).toUInt32 &&& Int32.toUInt32 31)).toInt32 &&& (1431655765 : Int32))) &&& (858993459 : Int32)) + ((((a0 - (((a0).toUInt32 >>> (((1 : Int32)).toUInt32 &&& Int32.toUInt32 31)).toInt32 &&& (1431655765 : Int32)))).toUInt32 >>> (((2 : Int32)).toUInt32 &&& Int32.toUInt32 31)).toInt32 &&& (858993459 : Int32))))]) hx hb dJ6_bitCount_0f7a4_23 rfl hl (by decide) rfl (fun ls hl => ?_)
  refine lv_iload_n hx hb dJ6_bitCount_0f7a4_24 rfl (lv_at hl 0 rfl) ?_
  refine lv_iload_n hx hb dJ6_bitCount_0f7a4_25 rfl (lv_at hl 0 rfl) ?_
  refine lv_iconst (v := (4 : Int32)) hx hb dJ6_bitCount_0f7a4_26 (by decide) ?_
  refine lv_iushr hx hb dJ6_bitCount_0f7a4_27 rfl ?_
  refine lv_iadd hx hb dJ6_bitCount_0f7a4_28 ?_
  refine lv_ldcw hx hb hown (v := (252645135 : Int32)) (hts _ (List.mem_of_getElem? (i := 3) rfl)) dJ6_bitCount_0f7a4_29 ?_
  refine lv_iand hx hb dJ6_bitCount_0f7a4_32 ?_
  refine lv_istore_n (lv' := [(0, .int (((((a0 - (((a0).toUInt32 >>> (((1 : Int32)).toUInt32 &&& Int32.toUInt32 31)).toInt32 &&& (1431655765 : Int32))) &&& (858993459 : Int32)) + ((((a0 - (((a0).toUInt32 >>> (((1 : Int32)).toUInt32 &&& Int32.toUInt32 31)).toInt32 &&& (1431655765 : Int32)))).toUInt32 >>> (((2 : Int32)).toUInt32 &&& Int32.toUInt32 31)).toInt32 &&& (858993459 : Int32))) + (((((a0 - (((a0).toUInt32 >>> (((1 : Int32)).toUInt32 &&& Int32.toUInt32 31)).toInt32 &&& (1431655765 : Int32))) &&& (858993459 : Int32)) + ((((a0 - (((a0).toUInt32 >>> (((1 : Int32)).toUInt32 &&& Int32.toUInt32 31)).toInt32 &&& (1431655765 : Int32)))).toUInt32 >>> (((2 : Int32)).toUInt32 &&& Int32.toUInt32 31)).toInt32 &&& (858993459 : Int32)))).toUInt32 >>> (((4 : Int32)).toUInt32 &&& Int32.toUInt32 31)).toInt32) &&& (252645135 : Int32)))]) hx hb dJ6_bitCount_0f7a4_33 rfl hl (by decide) rfl (fun ls hl => ?_)
  refine lv_iload_n hx hb dJ6_bitCount_0f7a4_34 rfl (lv_at hl 0 rfl) ?_
  refine lv_iload_n hx hb dJ6_bitCount_0f7a4_35 rfl (lv_at hl 0 rfl) ?_
  refine lv_bipush (v := (8 : Int32)) hx hb dJ6_bitCount_0f7a4_36 (by decide) ?_
  refine lv_iushr hx hb dJ6_bitCount_0f7a4_38 rfl ?_
  refine lv_iadd hx hb dJ6_bitCount_0f7a4_39 ?_
  refine lv_istore_n (lv' := [(0, .int ((((((a0 - (((a0).toUInt32 >>> (((1 : Int32)).toUInt32 &&& Int32.toUInt32 31)).toInt32 &&& (1431655765 : Int32))) &&& (858993459 : Int32)) + ((((a0 - (((a0).toUInt32 >>> (((1 : Int32)).toUInt32 &&& Int32.toUInt32 31)).toInt32 &&& (1431655765 : Int32)))).toUInt32 >>> (((2 : Int32)).toUInt32 &&& Int32.toUInt32 31)).toInt32 &&& (858993459 : Int32))) + (((((a0 - (((a0).toUInt32 >>> (((1 : Int32)).toUInt32 &&& Int32.toUInt32 31)).toInt32 &&& (1431655765 : Int32))) &&& (858993459 : Int32)) + ((((a0 - (((a0).toUInt32 >>> (((1 : Int32)).toUInt32 &&& Int32.toUInt32 31)).toInt32 &&& (1431655765 : Int32)))).toUInt32 >>> (((2 : Int32)).toUInt32 &&& Int32.toUInt32 31)).toInt32 &&& (858993459 : Int32)))).toUInt32 >>> (((4 : Int32)).toUInt32 &&& Int32.toUInt32 31)).toInt32) &&& (252645135 : Int32)) + (((((((a0 - (((a0).toUInt32 >>> (((1 : Int32)).toUInt32 &&& Int32.toUInt32 31)).toInt32 &&& (1431655765 : Int32))) &&& (858993459 : Int32)) + ((((a0 - (((a0).toUInt32 >>> (((1 : Int32)).toUInt32 &&& Int32.toUInt32 31)).toInt32 &&& (1431655765 : Int32)))).toUInt32 >>> (((2 : Int32)).toUInt32 &&& Int32.toUInt32 31)).toInt32 &&& (858993459 : Int32))) + (((((a0 - (((a0).toUInt32 >>> (((1 : Int32)).toUInt32 &&& Int32.toUInt32 31)).toInt32 &&& (1431655765 : Int32))) &&& (858993459 : Int32)) + ((((a0 - (((a0).toUInt32 >>> (((1 : Int32)).toUInt32 &&& Int32.toUInt32 31)).toInt32 &&& (1431655765 : Int32)))).toUInt32 >>> (((2 : Int32)).toUInt32 &&& Int32.toUInt32 31)).toInt32 &&& (858993459 : Int32)))).toUInt32 >>> (((4 : Int32)).toUInt32 &&& Int32.toUInt32 31)).toInt32) &&& (252645135 : Int32))).toUInt32 >>> (((8 : Int32)).toUInt32 &&& Int32.toUInt32 31)).toInt32))]) hx hb dJ6_bitCount_0f7a4_40 rfl hl (by decide) rfl (fun ls hl => ?_)
  refine lv_iload_n hx hb dJ6_bitCount_0f7a4_41 rfl (lv_at hl 0 rfl) ?_
  refine lv_iload_n hx hb dJ6_bitCount_0f7a4_42 rfl (lv_at hl 0 rfl) ?_
  refine lv_bipush (v := (16 : Int32)) hx hb dJ6_bitCount_0f7a4_43 (by decide) ?_
  refine lv_iushr hx hb dJ6_bitCount_0f7a4_45 rfl ?_
  refine lv_iadd hx hb dJ6_bitCount_0f7a4_46 ?_
  refine lv_istore_n (lv' := [(0, .int (((((((a0 - (((a0).toUInt32 >>> (((1 : Int32)).toUInt32 &&& Int32.toUInt32 31)).toInt32 &&& (1431655765 : Int32))) &&& (858993459 : Int32)) + ((((a0 - (((a0).toUInt32 >>> (((1 : Int32)).toUInt32 &&& Int32.toUInt32 31)).toInt32 &&& (1431655765 : Int32)))).toUInt32 >>> (((2 : Int32)).toUInt32 &&& Int32.toUInt32 31)).toInt32 &&& (858993459 : Int32))) + (((((a0 - (((a0).toUInt32 >>> (((1 : Int32)).toUInt32 &&& Int32.toUInt32 31)).toInt32 &&& (1431655765 : Int32))) &&& (858993459 : Int32)) + ((((a0 - (((a0).toUInt32 >>> (((1 : Int32)).toUInt32 &&& Int32.toUInt32 31)).toInt32 &&& (1431655765 : Int32)))).toUInt32 >>> (((2 : Int32)).toUInt32 &&& Int32.toUInt32 31)).toInt32 &&& (858993459 : Int32)))).toUInt32 >>> (((4 : Int32)).toUInt32 &&& Int32.toUInt32 31)).toInt32) &&& (252645135 : Int32)) + (((((((a0 - (((a0).toUInt32 >>> (((1 : Int32)).toUInt32 &&& Int32.toUInt32 31)).toInt32 &&& (1431655765 : Int32))) &&& (858993459 : Int32)) + ((((a0 - (((a0).toUInt32 >>> (((1 : Int32)).toUInt32 &&& Int32.toUInt32 31)).toInt32 &&& (1431655765 : Int32)))).toUInt32 >>> (((2 : Int32)).toUInt32 &&& Int32.toUInt32 31)).toInt32 &&& (858993459 : Int32))) + (((((a0 - (((a0).toUInt32 >>> (((1 : Int32)).toUInt32 &&& Int32.toUInt32 31)).toInt32 &&& (1431655765 : Int32))) &&& (858993459 : Int32)) + ((((a0 - (((a0).toUInt32 >>> (((1 : Int32)).toUInt32 &&& Int32.toUInt32 31)).toInt32 &&& (1431655765 : Int32)))).toUInt32 >>> (((2 : Int32)).toUInt32 &&& Int32.toUInt32 31)).toInt32 &&& (858993459 : Int32)))).toUInt32 >>> (((4 : Int32)).toUInt32 &&& Int32.toUInt32 31)).toInt32) &&& (252645135 : Int32))).toUInt32 >>> (((8 : Int32)).toUInt32 &&& Int32.toUInt32 31)).toInt32) + ((((((((a0 - (((a0).toUInt32 >>> (((1 : Int32)).toUInt32 &&& Int32.toUInt32 31)).toInt32 &&& (1431655765 : Int32))) &&& (858993459 : Int32)) + ((((a0 - (((a0).toUInt32 >>> (((1 : Int32)).toUInt32 &&& Int32.toUInt32 31)).toInt32 &&& (1431655765 : Int32)))).toUInt32 >>> (((2 : Int32)).toUInt32 &&& Int32.toUInt32 31)).toInt32 &&& (858993459 : Int32))) + (((((a0 - (((a0).toUInt32 >>> (((1 : Int32)).toUInt32 &&& Int32.toUInt32 31)).toInt32 &&& (1431655765 : Int32))) &&& (858993459 : Int32)) + ((((a0 - (((a0).toUInt32 >>> (((1 : Int32)).toUInt32 &&& Int32.toUInt32 31)).toInt32 &&& (1431655765 : Int32)))).toUInt32 >>> (((2 : Int32)).toUInt32 &&& Int32.toUInt32 31)).toInt32 &&& (858993459 : Int32)))).toUInt32 >>> (((4 : Int32)).toUInt32 &&& Int32.toUInt32 31)).toInt32) &&& (252645135 : Int32)) + (((((((a0 - (((a0).toUInt32 >>> (((1 : Int32)).toUInt32 &&& Int32.toUInt32 31)).toInt32 &&& (1431655765 : Int32))) &&& (858993459 : Int32)) + ((((a0 - (((a0).toUInt32 >>> (((1 : Int32)).toUInt32 &&& Int32.toUInt32 31)).toInt32 &&& (1431655765 : Int32)))).toUInt32 >>> (((2 : Int32)).toUInt32 &&& Int32.toUInt32 31)).toInt32 &&& (858993459 : Int32))) + (((((a0 - (((a0).toUInt32 >>> (((1 : Int32)).toUInt32 &&& Int32.toUInt32 31)).toInt32 &&& (1431655765 : Int32))) &&& (858993459 : Int32)) + ((((a0 - (((a0).toUInt32 >>> (((1 : Int32)).toUInt32 &&& Int32.toUInt32 31)).toInt32 &&& (1431655765 : Int32)))).toUInt32 >>> (((2 : Int32)).toUInt32 &&& Int32.toUInt32 31)).toInt32 &&& (858993459 : Int32)))).toUInt32 >>> (((4 : Int32)).toUInt32 &&& Int32.toUInt32 31)).toInt32) &&& (252645135 : Int32))).toUInt32 >>> (((8 : Int32)).toUInt32 &&& Int32.toUInt32 31)).toInt32)).toUInt32 >>> (((16 : Int32)).toUInt32 &&& Int32.toUInt32 31)).toInt32))]) hx hb dJ6_bitCount_0f7a4_47 rfl hl (by decide) rfl (fun ls hl => ?_)
  refine lv_iload_n hx hb dJ6_bitCount_0f7a4_48 rfl (lv_at hl 0 rfl) ?_
  refine lv_bipush (v := (63 : Int32)) hx hb dJ6_bitCount_0f7a4_49 (by decide) ?_
  refine lv_iand hx hb dJ6_bitCount_0f7a4_51 ?_
  have ho := Option.some.inj hsh
  rw [← ho] at hret
  exact hret _ _ _ _ dJ6_bitCount_0f7a4_52 hP hD hS

/-! DryWells$Planner.leastDepth -/
noncomputable def shX1_leastDepth_j_33 (x6_j_33 : Int32) : Option (Int32) :=
  some x6_j_33
noncomputable def shX1_leastDepth_j_42 (a2 : Int32) : Option (Int32) :=
  some (if a2 < (4 : Int32) then a2 else (4 : Int32))
noncomputable def shX1_leastDepth_L3 (a1 : Int32) (a2 : Int32) (a3 : Int32) (a4 : Int64) (w_gains : Nat → Int64) (w_worths : Nat → Int64) (x6_3 : Int32) : Option ((Int32) ⊕ ((Int32) ⊕ (Unit))) :=
  (if (4 : Int32) ≤ x6_3 then some (Sum.inr (Sum.inr ())) else (if a2 ≤ x6_3 then some (Sum.inr (Sum.inr ())) else ((shX1_worthWith a1 (a2 - x6_3) a3 x6_3 w_gains w_worths).bind fun o_24 => (if ¬ o_24 = a4 then some (Sum.inl (x6_3 + (1 : Int32))) else some (Sum.inr (Sum.inl x6_3))))))
noncomputable def shX1_leastDepth (a1 : Int32) (a2 : Int32) (a3 : Int32) (a4 : Int64) (w_gains : Nat → Int64) (w_worths : Nat → Int64) : Option (Int32) :=
  ((lp (fun s : Int32 => shX1_leastDepth_L3 a1 a2 a3 a4 w_gains w_worths s) (1 : Int32)).bind (Sum.elim (fun p : Int32 => shX1_leastDepth_j_33 p) (fun p : Unit => shX1_leastDepth_j_42 a2)))
def wdX1_leastDepth (cI cJ cZ : ClassId) (q_this q_gains q_roads q_steps q_worths q_depths q_rivals q_order : Nat) (v_admitted : Int32) (v_made : Int32) (v_worth : Int64) (v_set : Int32) (v_pipes : Int32) (v_days : Int32) (v_stops : Int32) (w_gains : Nat → Int64) (w_worths : Nat → Int64) : va_W := [(q_this, .inr (1, [.int v_admitted, .ref q_gains, .ref q_roads, .ref q_steps, .ref q_worths, .int v_made, .long v_worth, .int v_set, .int v_pipes, .int v_days, .int v_stops, .ref q_depths, .ref q_rivals, .ref q_order])), (q_gains, .inl (cJ, 40, .inr (.inl w_gains))), (q_worths, .inl (cJ, 3712, .inr (.inl w_worths)))]
abbrev rmX1_leastDepth : Room := { frames := 1, cells := 0, slots := 0, locals := 26 }
theorem inX1_leastDepth_X1 : ∀ w ∈ u_ws RX1 TX1 14, w ∈ wsX1_leastDepth := fun _ h => List.mem_cons_of_mem _ (List.mem_append_right _ h)
theorem hdX1_leastDepth : yX1_leastDepth.cls = RX1 ∧ yX1_leastDepth.cls ≠ "java/lang/invoke/MethodHandle" ∧ yX1_leastDepth.cls ≠ "java/lang/invoke/VarHandle" ∧ (parseMethodDescriptor yX1_leastDepth.desc).map (fun d => d.parameters.length) = some 4 := by decide +kernel
set_option maxHeartbeats 4000000 in
set_option maxRecDepth 100000 in
theorem ctX1_leastDepth (l : Launch) (D : va_G) (cI cJ cZ : ClassId) (q_this q_gains q_roads q_steps q_worths q_depths q_rivals q_order : Nat) (v_admitted : Int32) (v_made : Int32) (v_worth : Int64) (v_set : Int32) (v_pipes : Int32) (v_days : Int32) (v_stops : Int32) (w_gains : Nat → Int64) (w_worths : Nat → Int64) (a1 : Int32) (a2 : Int32) (a3 : Int32) (a4 : Int64) (o : Int32) (hsh : shX1_leastDepth a1 a2 a3 a4 w_gains w_worths = some o) : CtI l yX1_leastDepth wsX1_leastDepth rmX1_leastDepth D (tys3 cI cJ cZ) noE (wdX1_leastDepth cI cJ cZ q_this q_gains q_roads q_steps q_worths q_depths q_rivals q_order v_admitted v_made v_worth v_set v_pipes v_days v_stops w_gains w_worths) [.ref q_this, .int a1, .int a2, .int a3, .long a4] o (wdX1_leastDepth cI cJ cZ q_this q_gains q_roads q_steps q_worths q_depths q_rivals q_order v_admitted v_made v_worth v_set v_pipes v_days v_stops w_gains w_worths) := by
  refine ctI plX1 rfl (Nat.le_of_ble_eq_true rfl) ?_
  intro p e s m below meth c A Q S hK hA hE hret H locs hP hD hS ls hl
  replace S : CallFix p m c cX1_leastDepth 7 s _ wsX1_leastDepth RX1 := S
  generalize ([.ref q_this, .int a1, .int a2, .int a3, .long a4] : List Value).toArray = args at S hret ⊢
  obtain ⟨hx, hb, hml, hown, hts⟩ := id S
  replace hl : lv_has ls 7 [(0, .ref q_this), (1, .int a1), (2, .int a2), (3, .int a3), (4, .long a4)] := hl
  unfold shX1_leastDepth at hsh
  have Jj_33 : ∀ (x6_j_33 : Int32) (H : Heap) (locs : List Loc), va_P D vwCl (wdX1_leastDepth cI cJ cZ q_this q_gains q_roads q_steps q_worths q_depths q_rivals q_order v_admitted v_made v_worth v_set v_pipes v_days v_stops w_gains w_worths) H → va_D A (wdX1_leastDepth cI cJ cZ q_this q_gains q_roads q_steps q_worths q_depths q_rivals q_order v_admitted v_made v_worth v_set v_pipes v_days v_stops w_gains w_worths) → va_S A s.heap H locs → ∀ ls : Array Slot, lv_has ls 7 [(6, .int x6_j_33)] → shX1_leastDepth_j_33 x6_j_33 = some o → W p l e rmX1_leastDepth s m args below meth c H locs 0 0 Q (F0 m 33 ls []) := by
    intro x6_j_33 H locs hP hD hS ls hl hsh
    unfold shX1_leastDepth_j_33 at hsh
    refine lv_iload hx hb dX1_leastDepth_33 (lv_at hl 0 rfl) ?_
    have ho := Option.some.inj hsh
    rw [← ho] at hret
    exact hret _ _ _ _ dX1_leastDepth_35 hP hD hS
  have Jj_42 : ∀ (H : Heap) (locs : List Loc), va_P D vwCl (wdX1_leastDepth cI cJ cZ q_this q_gains q_roads q_steps q_worths q_depths q_rivals q_order v_admitted v_made v_worth v_set v_pipes v_days v_stops w_gains w_worths) H → va_D A (wdX1_leastDepth cI cJ cZ q_this q_gains q_roads q_steps q_worths q_depths q_rivals q_order v_admitted v_made v_worth v_set v_pipes v_days v_stops w_gains w_worths) → va_S A s.heap H locs → ∀ ls : Array Slot, lv_has ls 7 [(2, .int a2)] → shX1_leastDepth_j_42 a2 = some o → W p l e rmX1_leastDepth s m args below meth c H locs 0 0 Q (F0 m 42 ls []) := by
    intro  H locs hP hD hS ls hl hsh
    unfold shX1_leastDepth_j_42 at hsh
    refine lv_iconst (v := (4 : Int32)) hx hb dX1_leastDepth_42 (by decide) ?_
    refine lv_iload_n hx hb dX1_leastDepth_43 rfl (lv_at hl 0 rfl) ?_
    refine va_mmin hx hb (S.2.2.1.trans hl.1.symm) hown (hts _ (List.mem_of_getElem? (i := 1) rfl)) (hts _ (List.mem_of_getElem? (i := 2) rfl)) (hts _ (List.mem_of_getElem? (i := 3) rfl)) (hts _ (List.mem_of_getElem? (i := 4) rfl)) (Nat.le_of_ble_eq_true rfl) (Nat.le_of_ble_eq_true rfl) (Nat.le_of_ble_eq_true rfl) (Nat.le_of_ble_eq_true rfl) dX1_leastDepth_44 ?_
    have ho := Option.some.inj hsh
    rw [← ho] at hret
    exact hret _ _ _ _ dX1_leastDepth_47 hP hD hS
  refine lv_iconst (v := (1 : Int32)) hx hb dX1_leastDepth_0 (by decide) ?_
  refine lv_istore (lv' := [(6, .int (1 : Int32)), (0, .ref q_this), (1, .int a1), (2, .int a2), (3, .int a3), (4, .long a4)]) hx hb dX1_leastDepth_1 hl (by decide) rfl (fun ls hl => ?_)
  obtain ⟨r_3, hl_3, hk_3⟩ := bd hsh
  obtain ⟨n_3, hn_3⟩ := lp_iff.mp hl_3
  have L_3 : ∀ (n : Nat) (x6_3 : Int32) (H : Heap) (locs : List Loc), va_P D vwCl (wdX1_leastDepth cI cJ cZ q_this q_gains q_roads q_steps q_worths q_depths q_rivals q_order v_admitted v_made v_worth v_set v_pipes v_days v_stops w_gains w_worths) H → va_D A (wdX1_leastDepth cI cJ cZ q_this q_gains q_roads q_steps q_worths q_depths q_rivals q_order v_admitted v_made v_worth v_set v_pipes v_days v_stops w_gains w_worths) → va_S A s.heap H locs → ∀ ls : Array Slot, lv_has ls 7 [(0, .ref q_this), (1, .int a1), (2, .int a2), (3, .int a3), (4, .long a4), (6, .int x6_3)] → it (fun s : Int32 => shX1_leastDepth_L3 a1 a2 a3 a4 w_gains w_worths s) n x6_3 = some r_3 → W p l e rmX1_leastDepth s m args below meth c H locs 0 0 Q (F0 m 3 ls []) := by
    intro n
    induction n with
    | zero => exact fun _ _ _ _ _ _ _ _ hi => it_0 hi
    | succ n ih_3 =>
      intro x6_3 H locs hP hD hS ls hl hi
      obtain ⟨b_3, hsh, hB1_3, hB2_3⟩ := it_b hi
      replace hsh : shX1_leastDepth_L3 a1 a2 a3 a4 w_gains w_worths x6_3 = some b_3 := hsh
      unfold shX1_leastDepth_L3 at hsh
      refine lv_iload hx hb dX1_leastDepth_3 (lv_at hl 5 rfl) ?_
      refine lv_iconst (v := (4 : Int32)) hx hb dX1_leastDepth_5 (by decide) ?_
      refine lv_icmp_ge (tgt := 42) hx hb dX1_leastDepth_6 (by decide) (fun c1 => ?_) (fun c1 => ?_)
      · skip
        have hsh := ite_t hsh c1
        have he := hB2_3 _ hsh
        rw [← he] at hk_3
        have hk_3 := se_r hk_3
        exact Jj_42  H locs hP hD hS ls (lv_sub hl [2] rfl) hk_3
      · skip
        have hsh := ite_f hsh c1
        refine lv_iload hx hb dX1_leastDepth_9 (lv_at hl 5 rfl) ?_
        refine lv_iload_n hx hb dX1_leastDepth_11 rfl (lv_at hl 2 rfl) ?_
        refine lv_icmp_ge (tgt := 42) hx hb dX1_leastDepth_12 (by decide) (fun c1 => ?_) (fun c1 => ?_)
        · skip
          have hsh := ite_t hsh c1
          have he := hB2_3 _ hsh
          rw [← he] at hk_3
          have hk_3 := se_r hk_3
          exact Jj_42  H locs hP hD hS ls (lv_sub hl [2] rfl) hk_3
        · skip
          have hsh := ite_f hsh c1
          refine lv_aload_n hx hb dX1_leastDepth_15 rfl (lv_at hl 0 rfl) ?_
          refine lv_iload_n hx hb dX1_leastDepth_16 rfl (lv_at hl 1 rfl) ?_
          refine lv_iload_n hx hb dX1_leastDepth_17 rfl (lv_at hl 2 rfl) ?_
          refine lv_iload hx hb dX1_leastDepth_18 (lv_at hl 5 rfl) ?_
          refine lv_isub hx hb dX1_leastDepth_20 ?_
          refine lv_iload_n hx hb dX1_leastDepth_21 rfl (lv_at hl 3 rfl) ?_
          refine lv_iload hx hb dX1_leastDepth_22 (lv_at hl 5 rfl) ?_
          obtain ⟨o_24, he, hsh⟩ := bd hsh
          refine kVl (ci := 1) S hK hA (ctX1_worthWith l D cI cJ cZ q_this q_gains q_roads q_steps q_worths q_depths q_rivals q_order v_admitted v_made v_worth v_set v_pipes v_days v_stops w_gains w_worths a1 (a2 - x6_3) a3 x6_3 o_24 he) noE_cl (cwV 4 hts gX1_leastDepth_X1_worthWith rfl rfl rfl hdX1_worthWith ⟨Nat.le_of_ble_eq_true rfl, Nat.le_of_ble_eq_true rfl⟩) rfl 0 rfl [0, 1, 2] [] [0, 1, 2] (ws' := (wdX1_leastDepth cI cJ cZ q_this q_gains q_roads q_steps q_worths q_depths q_rivals q_order v_admitted v_made v_worth v_set v_pipes v_days v_stops w_gains w_worths)) ⟨rfl, rfl, rfl, rfl, rfl, rfl, rfl⟩ trivial rfl hl.1 rfl (Nat.le_of_ble_eq_true rfl) dX1_leastDepth_24 hP hD hS (fun H locs hP hD hS => ?_)
          refine lv_lload hx hb dX1_leastDepth_27 (lv_at hl 4 rfl) ?_
          refine W.lcmp hx hb dX1_leastDepth_29 ?_
          refine lv_if_ne (tgt := 36) hx hb dX1_leastDepth_30 (by decide) (fun c1 => ?_) (fun c1 => ?_)
          · have c1 := fun h => c1 (lc_eq.mpr h)
            have hsh := ite_t hsh c1
            refine lv_iinc (v := (x6_3 + (1 : Int32))) (lv' := [(6, .int (x6_3 + (1 : Int32))), (0, .ref q_this), (1, .int a1), (2, .int a2), (3, .int a3), (4, .long a4)]) hx hb dX1_leastDepth_36 hl (k := 5) rfl (congrArg (fun z : Int32 => x6_3 + z) (by decide)) (by decide) rfl (fun ls hl => ?_)
            refine lv_goto (tgt := 3) hx hb dX1_leastDepth_39 (by decide) ?_
            exact ih_3 (x6_3 + (1 : Int32)) H locs hP hD hS ls (lv_sub hl [1, 2, 3, 4, 5, 0] rfl) (hB1_3 _ hsh)
          · have c1 := lc_eq.mp c1
            have hsh := ite_f hsh (fun h => h c1)
            have he := hB2_3 _ hsh
            rw [← he] at hk_3
            have hk_3 := se_l hk_3
            exact Jj_33 x6_3 H locs hP hD hS ls (lv_sub hl [5] rfl) hk_3
  exact L_3 n_3 (1 : Int32) H locs hP hD hS ls (lv_sub hl [1, 2, 3, 4, 5, 0] rfl) hn_3

/-! DryWells$Planner.layDepths -/
noncomputable def shX1_layDepths_j_90 (w_p3_j_90 : Nat → Int32) : Option ((Nat → Int32)) :=
  some w_p3_j_90
noncomputable def shX1_layDepths_k9_84 (x6_9 : Int32) (x4_k9_84 : Int32) (x5_k9_84 : Int32) (w_p3_k9_84 : Nat → Int32) : Option ((Int32 × Int32 × Int32 × (Nat → Int32)) ⊕ (((Nat → Int32)))) :=
  some (Sum.inl (x4_k9_84, x5_k9_84, (x6_9 + (1 : Int32)), w_p3_k9_84))
noncomputable def shX1_layDepths_L9 (w_gains : Nat → Int64) (w_worths : Nat → Int64) (x4_9 : Int32) (x5_9 : Int32) (x6_9 : Int32) (w_p3_9 : Nat → Int32) : Option ((Int32 × Int32 × Int32 × (Nat → Int32)) ⊕ (((Nat → Int32)))) :=
  (if (8 : Int32) ≤ x6_9 then some (Sum.inr w_p3_9) else ((gd x6_9 8).bind fun _ => ((shX1_bit x6_9).bind fun o_25 => (if (x5_9 &&& o_25) = 0 then (shX1_layDepths_k9_84 x6_9 x4_9 x5_9 (upd w_p3_9 (x6_9).toNatClampNeg (0 : Int32))) else ((gd ((x5_9 * (29 : Int32)) + x4_9) 3712).bind fun _ => ((shX1_bit x6_9).bind fun o_51 => ((shX1_leastDepth (x5_9 &&& (o_51 ^^^ (-1 : Int32))) x4_9 x6_9 (w_worths (((x5_9 * (29 : Int32)) + x4_9)).toNatClampNeg) w_gains w_worths).bind fun o_71 => ((gd x6_9 8).bind fun _ => ((gd x6_9 8).bind fun _ => (shX1_layDepths_k9_84 x6_9 (x4_9 - ((upd (upd w_p3_9 (x6_9).toNatClampNeg (0 : Int32)) (x6_9).toNatClampNeg o_71) (x6_9).toNatClampNeg)) (x5_9 &&& (o_51 ^^^ (-1 : Int32))) (upd (upd w_p3_9 (x6_9).toNatClampNeg (0 : Int32)) (x6_9).toNatClampNeg o_71)))))))))))
noncomputable def shX1_layDepths (a1 : Int32) (a2 : Int32) (w_gains : Nat → Int64) (w_worths : Nat → Int64) (w_p3 : Nat → Int32) : Option ((Nat → Int32)) :=
  ((lp (fun s : Int32 × Int32 × Int32 × (Nat → Int32) => shX1_layDepths_L9 w_gains w_worths s.1 s.2.1 s.2.2.1 s.2.2.2) (a2, a1, (1 : Int32), w_p3)).bind (fun p : (Nat → Int32) => shX1_layDepths_j_90 p))
def wdX1_layDepths (cI cJ cZ : ClassId) (q_this q_p3 q_gains q_roads q_steps q_worths q_depths q_rivals q_order : Nat) (v_admitted : Int32) (v_made : Int32) (v_worth : Int64) (v_set : Int32) (v_pipes : Int32) (v_days : Int32) (v_stops : Int32) (w_gains : Nat → Int64) (w_worths : Nat → Int64) (w_p3 : Nat → Int32) : va_W := [(q_this, .inr (1, [.int v_admitted, .ref q_gains, .ref q_roads, .ref q_steps, .ref q_worths, .int v_made, .long v_worth, .int v_set, .int v_pipes, .int v_days, .int v_stops, .ref q_depths, .ref q_rivals, .ref q_order])), (q_gains, .inl (cJ, 40, .inr (.inl w_gains))), (q_worths, .inl (cJ, 3712, .inr (.inl w_worths))), (q_p3, .inl (cI, 8, .inl w_p3))]
abbrev rmX1_layDepths : Room := { frames := 2, cells := 0, slots := 0, locals := 52 }
theorem inX1_layDepths_X1 : ∀ w ∈ u_ws RX1 TX1 14, w ∈ wsX1_layDepths := fun _ h => List.mem_cons_of_mem _ (List.mem_append_right _ h)
theorem lkX1_layDepths_32 : Cond.fieldLink RX1 32 (TX1 4).1 (TX1 4).2.1 (TX1 4).2.2.1 ∈ wsX1_layDepths := List.mem_of_getElem? (i := 1) rfl
theorem hdX1_layDepths : yX1_layDepths.cls = RX1 ∧ yX1_layDepths.cls ≠ "java/lang/invoke/MethodHandle" ∧ yX1_layDepths.cls ≠ "java/lang/invoke/VarHandle" ∧ (parseMethodDescriptor yX1_layDepths.desc).map (fun d => d.parameters.length) = some 3 := by decide +kernel
set_option maxHeartbeats 4000000 in
set_option maxRecDepth 100000 in
theorem ctX1_layDepths (l : Launch) (D : va_G) (cI cJ cZ : ClassId) (q_this q_p3 q_gains q_roads q_steps q_worths q_depths q_rivals q_order : Nat) (v_admitted : Int32) (v_made : Int32) (v_worth : Int64) (v_set : Int32) (v_pipes : Int32) (v_days : Int32) (v_stops : Int32) (w_gains : Nat → Int64) (w_worths : Nat → Int64) (w_p3 : Nat → Int32) (a1 : Int32) (a2 : Int32) (o : (Nat → Int32)) (hsh : shX1_layDepths a1 a2 w_gains w_worths w_p3 = some o) : CtV l yX1_layDepths wsX1_layDepths rmX1_layDepths D (tys3 cI cJ cZ) noE (wdX1_layDepths cI cJ cZ q_this q_p3 q_gains q_roads q_steps q_worths q_depths q_rivals q_order v_admitted v_made v_worth v_set v_pipes v_days v_stops w_gains w_worths w_p3) [.ref q_this, .int a1, .int a2, .ref q_p3]  (wdX1_layDepths cI cJ cZ q_this q_p3 q_gains q_roads q_steps q_worths q_depths q_rivals q_order v_admitted v_made v_worth v_set v_pipes v_days v_stops w_gains w_worths o) := by
  refine ctV plX1 rfl (Nat.le_of_ble_eq_true rfl) ?_
  intro p e s m below meth c A Q S hK hA hE hret H locs hP hD hS ls hl
  replace S : CallFix p m c cX1_layDepths 9 s _ wsX1_layDepths RX1 := S
  generalize ([.ref q_this, .int a1, .int a2, .ref q_p3] : List Value).toArray = args at S hret ⊢
  obtain ⟨hx, hb, hml, hown, hts⟩ := id S
  replace hl : lv_has ls 9 [(0, .ref q_this), (1, .int a1), (2, .int a2), (3, .ref q_p3)] := hl
  unfold shX1_layDepths at hsh
  have Jj_90 : ∀ (w_p3_j_90 : Nat → Int32) (H : Heap) (locs : List Loc), va_P D vwCl (wdX1_layDepths cI cJ cZ q_this q_p3 q_gains q_roads q_steps q_worths q_depths q_rivals q_order v_admitted v_made v_worth v_set v_pipes v_days v_stops w_gains w_worths w_p3_j_90) H → va_D A (wdX1_layDepths cI cJ cZ q_this q_p3 q_gains q_roads q_steps q_worths q_depths q_rivals q_order v_admitted v_made v_worth v_set v_pipes v_days v_stops w_gains w_worths w_p3_j_90) → va_S A s.heap H locs → ∀ ls : Array Slot, lv_has ls 9 [] → shX1_layDepths_j_90 w_p3_j_90 = some o → W p l e rmX1_layDepths s m args below meth c H locs 0 0 Q (F0 m 90 ls []) := by
    intro w_p3_j_90 H locs hP hD hS ls hl hsh
    unfold shX1_layDepths_j_90 at hsh
    have ho := Option.some.inj hsh
    rw [← ho] at hret
    exact hret _ _ _ _ dX1_layDepths_90 hP hD hS
  refine lv_iload_n hx hb dX1_layDepths_0 rfl (lv_at hl 2 rfl) ?_
  refine lv_istore (lv' := [(4, .int a2), (0, .ref q_this), (1, .int a1), (2, .int a2), (3, .ref q_p3)]) hx hb dX1_layDepths_1 hl (by decide) rfl (fun ls hl => ?_)
  refine lv_iload_n hx hb dX1_layDepths_3 rfl (lv_at hl 2 rfl) ?_
  refine lv_istore (lv' := [(5, .int a1), (4, .int a2), (0, .ref q_this), (1, .int a1), (2, .int a2), (3, .ref q_p3)]) hx hb dX1_layDepths_4 hl (by decide) rfl (fun ls hl => ?_)
  refine lv_iconst (v := (1 : Int32)) hx hb dX1_layDepths_6 (by decide) ?_
  refine lv_istore (lv' := [(6, .int (1 : Int32)), (5, .int a1), (4, .int a2), (0, .ref q_this), (1, .int a1), (2, .int a2), (3, .ref q_p3)]) hx hb dX1_layDepths_7 hl (by decide) rfl (fun ls hl => ?_)
  obtain ⟨r_9, hl_9, hk_9⟩ := bd hsh
  obtain ⟨n_9, hn_9⟩ := lp_iff.mp hl_9
  have L_9 : ∀ (n : Nat) (x4_9 : Int32) (x5_9 : Int32) (x6_9 : Int32) (w_p3_9 : Nat → Int32) (H : Heap) (locs : List Loc), va_P D vwCl (wdX1_layDepths cI cJ cZ q_this q_p3 q_gains q_roads q_steps q_worths q_depths q_rivals q_order v_admitted v_made v_worth v_set v_pipes v_days v_stops w_gains w_worths w_p3_9) H → va_D A (wdX1_layDepths cI cJ cZ q_this q_p3 q_gains q_roads q_steps q_worths q_depths q_rivals q_order v_admitted v_made v_worth v_set v_pipes v_days v_stops w_gains w_worths w_p3_9) → va_S A s.heap H locs → ∀ ls : Array Slot, lv_has ls 9 [(0, .ref q_this), (3, .ref q_p3), (4, .int x4_9), (5, .int x5_9), (6, .int x6_9)] → it (fun s : Int32 × Int32 × Int32 × (Nat → Int32) => shX1_layDepths_L9 w_gains w_worths s.1 s.2.1 s.2.2.1 s.2.2.2) n (x4_9, x5_9, x6_9, w_p3_9) = some r_9 → W p l e rmX1_layDepths s m args below meth c H locs 0 0 Q (F0 m 9 ls []) := by
    intro n
    induction n with
    | zero => exact fun _ _ _ _ _ _ _ _ _ _ _ hi => it_0 hi
    | succ n ih_9 =>
      intro x4_9 x5_9 x6_9 w_p3_9 H locs hP hD hS ls hl hi
      obtain ⟨b_9, hsh, hB1_9, hB2_9⟩ := it_b hi
      replace hsh : shX1_layDepths_L9 w_gains w_worths x4_9 x5_9 x6_9 w_p3_9 = some b_9 := hsh
      unfold shX1_layDepths_L9 at hsh
      have Jk9_84 : ∀ (x4_k9_84 : Int32) (x5_k9_84 : Int32) (w_p3_k9_84 : Nat → Int32) (H : Heap) (locs : List Loc), va_P D vwCl (wdX1_layDepths cI cJ cZ q_this q_p3 q_gains q_roads q_steps q_worths q_depths q_rivals q_order v_admitted v_made v_worth v_set v_pipes v_days v_stops w_gains w_worths w_p3_k9_84) H → va_D A (wdX1_layDepths cI cJ cZ q_this q_p3 q_gains q_roads q_steps q_worths q_depths q_rivals q_order v_admitted v_made v_worth v_set v_pipes v_days v_stops w_gains w_worths w_p3_k9_84) → va_S A s.heap H locs → ∀ ls : Array Slot, lv_has ls 9 [(0, .ref q_this), (3, .ref q_p3), (4, .int x4_k9_84), (5, .int x5_k9_84), (6, .int x6_9)] → shX1_layDepths_k9_84 x6_9 x4_k9_84 x5_k9_84 w_p3_k9_84 = some b_9 → W p l e rmX1_layDepths s m args below meth c H locs 0 0 Q (F0 m 84 ls []) := by
        intro x4_k9_84 x5_k9_84 w_p3_k9_84 H locs hP hD hS ls hl hsh
        unfold shX1_layDepths_k9_84 at hsh
        refine lv_iinc (v := (x6_9 + (1 : Int32))) (lv' := [(6, .int (x6_9 + (1 : Int32))), (0, .ref q_this), (3, .ref q_p3), (4, .int x4_k9_84), (5, .int x5_k9_84)]) hx hb dX1_layDepths_84 hl (k := 4) rfl (congrArg (fun z : Int32 => x6_9 + z) (by decide)) (by decide) rfl (fun ls hl => ?_)
        refine lv_goto (tgt := 9) hx hb dX1_layDepths_87 (by decide) ?_
        exact ih_9 x4_k9_84 x5_k9_84 (x6_9 + (1 : Int32)) w_p3_k9_84 H locs hP hD hS ls (lv_sub hl [1, 2, 3, 4, 0] rfl) (hB1_9 _ hsh)
      refine lv_iload hx hb dX1_layDepths_9 (lv_at hl 4 rfl) ?_
      refine lv_bipush (v := (8 : Int32)) hx hb dX1_layDepths_11 (by decide) ?_
      refine lv_icmp_ge (tgt := 90) hx hb dX1_layDepths_13 (by decide) (fun c1 => ?_) (fun c1 => ?_)
      · skip
        have hsh := ite_t hsh c1
        have he := hB2_9 _ hsh
        rw [← he] at hk_9
        exact Jj_90 w_p3_9 H locs hP hD hS ls (lv_sub hl [] rfl) hk_9
      · skip
        have hsh := ite_f hsh c1
        refine lv_aload_n hx hb dX1_layDepths_16 rfl (lv_at hl 1 rfl) ?_
        refine lv_iload hx hb dX1_layDepths_17 (lv_at hl 4 rfl) ?_
        refine lv_iconst (v := (0 : Int32)) hx hb dX1_layDepths_19 (by decide) ?_
        obtain ⟨_, hg, hsh⟩ := bd hsh
        refine kias S hK hP hD hS 3 0 rfl rfl (gd_in hg) (ws' := (wdX1_layDepths cI cJ cZ q_this q_p3 q_gains q_roads q_steps q_worths q_depths q_rivals q_order v_admitted v_made v_worth v_set v_pipes v_days v_stops w_gains w_worths (upd w_p3_9 (x6_9).toNatClampNeg (0 : Int32)))) rfl dX1_layDepths_20 (fun H locs hP hD hS => ?_)
        refine lv_iload hx hb dX1_layDepths_21 (lv_at hl 3 rfl) ?_
        refine lv_iload hx hb dX1_layDepths_23 (lv_at hl 4 rfl) ?_
        obtain ⟨o_25, he, hsh⟩ := bd hsh
        refine kSi S hK hA (ctX1_bit l D cI cJ cZ x6_9 o_25 he) noE_cl (va_cwS 1 hts gX1_layDepths_X1_bit rfl rfl rfl hdX1_bit ⟨Nat.le_of_ble_eq_true rfl, Nat.le_of_ble_eq_true rfl⟩) [] [0, 1, 2, 3] [0, 1, 2, 3] (ws' := (wdX1_layDepths cI cJ cZ q_this q_p3 q_gains q_roads q_steps q_worths q_depths q_rivals q_order v_admitted v_made v_worth v_set v_pipes v_days v_stops w_gains w_worths (upd w_p3_9 (x6_9).toNatClampNeg (0 : Int32)))) ⟨rfl, rfl, rfl, rfl, rfl, rfl, rfl⟩ trivial rfl hl.1 rfl (Nat.le_of_ble_eq_true rfl) dX1_layDepths_25 hP hD hS (fun H locs hP hD hS => ?_)
        refine lv_iand hx hb dX1_layDepths_28 ?_
        refine lv_if_eq (tgt := 84) hx hb dX1_layDepths_29 (by decide) (fun c1 => ?_) (fun c1 => ?_)
        · skip
          have hsh := ite_t hsh c1
          exact Jk9_84 x4_9 x5_9 (upd w_p3_9 (x6_9).toNatClampNeg (0 : Int32)) H locs hP hD hS ls (lv_sub hl [0, 1, 2, 3, 4] rfl) hsh
        · skip
          have hsh := ite_f hsh c1
          refine lv_aload_n hx hb dX1_layDepths_32 rfl (lv_at hl 0 rfl) ?_
          refine kget (ci := 1) S hK hP rfl inX1_layDepths_X1 0 rfl 4 (by decide) lkX1_layDepths_32 rfl dX1_layDepths_33 ?_
          refine lv_iload hx hb dX1_layDepths_36 (lv_at hl 3 rfl) ?_
          refine lv_bipush (v := (29 : Int32)) hx hb dX1_layDepths_38 (by decide) ?_
          refine lv_imul hx hb dX1_layDepths_40 ?_
          refine lv_iload hx hb dX1_layDepths_41 (lv_at hl 2 rfl) ?_
          refine lv_iadd hx hb dX1_layDepths_43 ?_
          obtain ⟨_, hg, hsh⟩ := bd hsh
          refine klal S hK hP 2 1 rfl rfl (gd_in hg) dX1_layDepths_44 ?_
          refine lv_lstore (lv' := [(7, .long (w_worths (((x5_9 * (29 : Int32)) + x4_9)).toNatClampNeg)), (0, .ref q_this), (3, .ref q_p3), (4, .int x4_9), (5, .int x5_9), (6, .int x6_9)]) hx hb dX1_layDepths_45 hl (by decide) rfl (fun ls hl => ?_)
          refine lv_iload hx hb dX1_layDepths_47 (lv_at hl 4 rfl) ?_
          refine lv_iload hx hb dX1_layDepths_49 (lv_at hl 5 rfl) ?_
          obtain ⟨o_51, he, hsh⟩ := bd hsh
          refine kSi S hK hA (ctX1_bit l D cI cJ cZ x6_9 o_51 he) noE_cl (va_cwS 1 hts gX1_layDepths_X1_bit rfl rfl rfl hdX1_bit ⟨Nat.le_of_ble_eq_true rfl, Nat.le_of_ble_eq_true rfl⟩) [] [0, 1, 2, 3] [0, 1, 2, 3] (ws' := (wdX1_layDepths cI cJ cZ q_this q_p3 q_gains q_roads q_steps q_worths q_depths q_rivals q_order v_admitted v_made v_worth v_set v_pipes v_days v_stops w_gains w_worths (upd w_p3_9 (x6_9).toNatClampNeg (0 : Int32)))) ⟨rfl, rfl, rfl, rfl, rfl, rfl, rfl⟩ trivial rfl hl.1 rfl (Nat.le_of_ble_eq_true rfl) dX1_layDepths_51 hP hD hS (fun H locs hP hD hS => ?_)
          refine lv_iconst (v := (-1 : Int32)) hx hb dX1_layDepths_54 (by decide) ?_
          refine lv_ixor hx hb dX1_layDepths_55 ?_
          refine lv_iand hx hb dX1_layDepths_56 ?_
          refine lv_istore (lv' := [(5, .int (x5_9 &&& (o_51 ^^^ (-1 : Int32)))), (7, .long (w_worths (((x5_9 * (29 : Int32)) + x4_9)).toNatClampNeg)), (0, .ref q_this), (3, .ref q_p3), (4, .int x4_9), (6, .int x6_9)]) hx hb dX1_layDepths_57 hl (by decide) rfl (fun ls hl => ?_)
          refine lv_aload_n hx hb dX1_layDepths_59 rfl (lv_at hl 3 rfl) ?_
          refine lv_iload hx hb dX1_layDepths_60 (lv_at hl 5 rfl) ?_
          refine lv_aload_n hx hb dX1_layDepths_62 rfl (lv_at hl 2 rfl) ?_
          refine lv_iload hx hb dX1_layDepths_63 (lv_at hl 0 rfl) ?_
          refine lv_iload hx hb dX1_layDepths_65 (lv_at hl 4 rfl) ?_
          refine lv_iload hx hb dX1_layDepths_67 (lv_at hl 5 rfl) ?_
          refine lv_lload hx hb dX1_layDepths_69 (lv_at hl 1 rfl) ?_
          obtain ⟨o_71, he, hsh⟩ := bd hsh
          refine kVi (ci := 1) S hK hA (ctX1_leastDepth l D cI cJ cZ q_this q_gains q_roads q_steps q_worths q_depths q_rivals q_order v_admitted v_made v_worth v_set v_pipes v_days v_stops w_gains w_worths (x5_9 &&& (o_51 ^^^ (-1 : Int32))) x4_9 x6_9 (w_worths (((x5_9 * (29 : Int32)) + x4_9)).toNatClampNeg) o_71 he) noE_cl (cwV 4 hts gX1_layDepths_X1_leastDepth rfl rfl rfl hdX1_leastDepth ⟨Nat.le_of_ble_eq_true rfl, Nat.le_of_ble_eq_true rfl⟩) rfl 0 rfl [0, 1, 2] [3] [1, 2, 3, 0] (ws' := (wdX1_layDepths cI cJ cZ q_this q_p3 q_gains q_roads q_steps q_worths q_depths q_rivals q_order v_admitted v_made v_worth v_set v_pipes v_days v_stops w_gains w_worths (upd w_p3_9 (x6_9).toNatClampNeg (0 : Int32)))) ⟨rfl, rfl, rfl, rfl, rfl, rfl, rfl⟩ trivial rfl hl.1 rfl (Nat.le_of_ble_eq_true rfl) dX1_layDepths_71 hP hD hS (fun H locs hP hD hS => ?_)
          obtain ⟨_, hg, hsh⟩ := bd hsh
          refine kias S hK hP hD hS 3 0 rfl rfl (gd_in hg) (ws' := (wdX1_layDepths cI cJ cZ q_this q_p3 q_gains q_roads q_steps q_worths q_depths q_rivals q_order v_admitted v_made v_worth v_set v_pipes v_days v_stops w_gains w_worths (upd (upd w_p3_9 (x6_9).toNatClampNeg (0 : Int32)) (x6_9).toNatClampNeg o_71))) rfl dX1_layDepths_74 (fun H locs hP hD hS => ?_)
          refine lv_iload hx hb dX1_layDepths_75 (lv_at hl 4 rfl) ?_
          refine lv_aload_n hx hb dX1_layDepths_77 rfl (lv_at hl 3 rfl) ?_
          refine lv_iload hx hb dX1_layDepths_78 (lv_at hl 5 rfl) ?_
          obtain ⟨_, hg, hsh⟩ := bd hsh
          refine kial S hK hP 3 0 rfl rfl (gd_in hg) dX1_layDepths_80 ?_
          refine lv_isub hx hb dX1_layDepths_81 ?_
          refine lv_istore (lv' := [(4, .int (x4_9 - ((upd (upd w_p3_9 (x6_9).toNatClampNeg (0 : Int32)) (x6_9).toNatClampNeg o_71) (x6_9).toNatClampNeg))), (5, .int (x5_9 &&& (o_51 ^^^ (-1 : Int32)))), (7, .long (w_worths (((x5_9 * (29 : Int32)) + x4_9)).toNatClampNeg)), (0, .ref q_this), (3, .ref q_p3), (6, .int x6_9)]) hx hb dX1_layDepths_82 hl (by decide) rfl (fun ls hl => ?_)
          exact Jk9_84 (x4_9 - ((upd (upd w_p3_9 (x6_9).toNatClampNeg (0 : Int32)) (x6_9).toNatClampNeg o_71) (x6_9).toNatClampNeg)) (x5_9 &&& (o_51 ^^^ (-1 : Int32))) (upd (upd w_p3_9 (x6_9).toNatClampNeg (0 : Int32)) (x6_9).toNatClampNeg o_71) H locs hP hD hS ls (lv_sub hl [3, 4, 0, 1, 5] rfl) hsh
  exact L_9 n_9 a2 a1 (1 : Int32) w_p3 H locs hP hD hS ls (lv_sub hl [3, 6, 2, 1, 0] rfl) hn_9

/-! DryWells$Planner.isBetter -/
noncomputable def shX1_isBetter_j_16 (a1 : Int64) (v_made : Int32) (v_worth : Int64) (w_rivals : Nat → Int32) : Option (Int32 × (Nat → Int32)) :=
  (if v_made = 0 then some ((1 : Int32), w_rivals) else (if a1 ≤ v_worth then some ((0 : Int32), w_rivals) else some ((1 : Int32), w_rivals)))
noncomputable def shX1_isBetter_j_124 (w_depths : Nat → Int32) (x6_j_124 : Int32) (w_rivals_j_124 : Nat → Int32) : Option (Int32 × (Nat → Int32)) :=
  ((gd x6_j_124 8).bind fun _ => ((gd x6_j_124 8).bind fun _ => (if (w_depths (x6_j_124).toNatClampNeg) ≤ (w_rivals_j_124 (x6_j_124).toNatClampNeg) then some ((0 : Int32), w_rivals_j_124) else some ((1 : Int32), w_rivals_j_124))))
noncomputable def shX1_isBetter_j_153 (w_rivals_j_153 : Nat → Int32) : Option (Int32 × (Nat → Int32)) :=
  some ((0 : Int32), w_rivals_j_153)
noncomputable def shX1_isBetter_L100 (w_depths : Nat → Int32) (o_94 : (Nat → Int32)) (x6_100 : Int32) : Option ((Int32) ⊕ ((Int32) ⊕ (Unit))) :=
  (if (8 : Int32) ≤ x6_100 then some (Sum.inr (Sum.inr ())) else ((gd x6_100 8).bind fun _ => ((gd x6_100 8).bind fun _ => (if (o_94 (x6_100).toNatClampNeg) = (w_depths (x6_100).toNatClampNeg) then some (Sum.inl (x6_100 + (1 : Int32))) else some (Sum.inr (Sum.inl x6_100))))))
noncomputable def shX1_isBetter (a1 : Int64) (a3 : Int32) (a4 : Int32) (a5 : Int32) (v_made : Int32) (v_worth : Int64) (v_pipes : Int32) (v_days : Int32) (w_gains : Nat → Int64) (w_worths : Nat → Int64) (w_depths : Nat → Int32) (w_rivals : Nat → Int32) : Option (Int32 × (Nat → Int32)) :=
  (if v_made = 0 then (shX1_isBetter_j_16 a1 v_made v_worth w_rivals) else (if a1 = v_worth then (if a4 = v_pipes then (if a5 = v_days then ((shX1_layDepths a3 a4 w_gains w_worths w_rivals).bind fun o_94 => ((lp (fun s : Int32 => shX1_isBetter_L100 w_depths o_94 s) (1 : Int32)).bind (Sum.elim (fun p : Int32 => shX1_isBetter_j_124 w_depths p o_94) (fun p : Unit => shX1_isBetter_j_153 o_94)))) else (if v_days ≤ a5 then some ((0 : Int32), w_rivals) else some ((1 : Int32), w_rivals))) else (if v_pipes ≤ a4 then some ((0 : Int32), w_rivals) else some ((1 : Int32), w_rivals))) else (shX1_isBetter_j_16 a1 v_made v_worth w_rivals)))
def wdX1_isBetter (cI cJ cZ : ClassId) (q_this q_gains q_roads q_steps q_worths q_depths q_rivals q_order : Nat) (v_admitted : Int32) (v_made : Int32) (v_worth : Int64) (v_set : Int32) (v_pipes : Int32) (v_days : Int32) (v_stops : Int32) (w_gains : Nat → Int64) (w_worths : Nat → Int64) (w_depths : Nat → Int32) (w_rivals : Nat → Int32) : va_W := [(q_this, .inr (1, [.int v_admitted, .ref q_gains, .ref q_roads, .ref q_steps, .ref q_worths, .int v_made, .long v_worth, .int v_set, .int v_pipes, .int v_days, .int v_stops, .ref q_depths, .ref q_rivals, .ref q_order])), (q_gains, .inl (cJ, 40, .inr (.inl w_gains))), (q_worths, .inl (cJ, 3712, .inr (.inl w_worths))), (q_depths, .inl (cI, 8, .inl w_depths)), (q_rivals, .inl (cI, 8, .inl w_rivals))]
abbrev rmX1_isBetter : Room := { frames := 3, cells := 0, slots := 0, locals := 80 }
theorem inX1_isBetter_X1 : ∀ w ∈ u_ws RX1 TX1 14, w ∈ wsX1_isBetter := fun _ h => List.mem_cons_of_mem _ (List.mem_append_right _ h)
theorem lkX1_isBetter_35 : Cond.fieldLink RX1 35 (TX1 5).1 (TX1 5).2.1 (TX1 5).2.2.1 ∈ wsX1_isBetter := List.mem_of_getElem? (i := 1) rfl
theorem lkX1_isBetter_39 : Cond.fieldLink RX1 39 (TX1 6).1 (TX1 6).2.1 (TX1 6).2.2.1 ∈ wsX1_isBetter := List.mem_of_getElem? (i := 2) rfl
theorem lkX1_isBetter_46 : Cond.fieldLink RX1 46 (TX1 8).1 (TX1 8).2.1 (TX1 8).2.2.1 ∈ wsX1_isBetter := List.mem_of_getElem? (i := 3) rfl
theorem lkX1_isBetter_49 : Cond.fieldLink RX1 49 (TX1 9).1 (TX1 9).2.1 (TX1 9).2.2.1 ∈ wsX1_isBetter := List.mem_of_getElem? (i := 4) rfl
theorem lkX1_isBetter_58 : Cond.fieldLink RX1 58 (TX1 12).1 (TX1 12).2.1 (TX1 12).2.2.1 ∈ wsX1_isBetter := List.mem_of_getElem? (i := 5) rfl
theorem lkX1_isBetter_55 : Cond.fieldLink RX1 55 (TX1 11).1 (TX1 11).2.1 (TX1 11).2.2.1 ∈ wsX1_isBetter := List.mem_of_getElem? (i := 6) rfl
theorem hdX1_isBetter : yX1_isBetter.cls = RX1 ∧ yX1_isBetter.cls ≠ "java/lang/invoke/MethodHandle" ∧ yX1_isBetter.cls ≠ "java/lang/invoke/VarHandle" ∧ (parseMethodDescriptor yX1_isBetter.desc).map (fun d => d.parameters.length) = some 4 := by decide +kernel
set_option maxHeartbeats 4000000 in
set_option maxRecDepth 100000 in
theorem ctX1_isBetter (l : Launch) (D : va_G) (cI cJ cZ : ClassId) (q_this q_gains q_roads q_steps q_worths q_depths q_rivals q_order : Nat) (v_admitted : Int32) (v_made : Int32) (v_worth : Int64) (v_set : Int32) (v_pipes : Int32) (v_days : Int32) (v_stops : Int32) (w_gains : Nat → Int64) (w_worths : Nat → Int64) (w_depths : Nat → Int32) (w_rivals : Nat → Int32) (a1 : Int64) (a3 : Int32) (a4 : Int32) (a5 : Int32) (o : Int32 × (Nat → Int32)) (hsh : shX1_isBetter a1 a3 a4 a5 v_made v_worth v_pipes v_days w_gains w_worths w_depths w_rivals = some o) : CtI l yX1_isBetter wsX1_isBetter rmX1_isBetter D (tys3 cI cJ cZ) noE (wdX1_isBetter cI cJ cZ q_this q_gains q_roads q_steps q_worths q_depths q_rivals q_order v_admitted v_made v_worth v_set v_pipes v_days v_stops w_gains w_worths w_depths w_rivals) [.ref q_this, .long a1, .int a3, .int a4, .int a5] o.1 (wdX1_isBetter cI cJ cZ q_this q_gains q_roads q_steps q_worths q_depths q_rivals q_order v_admitted v_made v_worth v_set v_pipes v_days v_stops w_gains w_worths w_depths o.2) := by
  refine ctZ plX1 rfl (Nat.le_of_ble_eq_true rfl) ?_
  intro p e s m below meth c A Q S hK hA hE hret H locs hP hD hS ls hl
  replace S : CallFix p m c cX1_isBetter 7 s _ wsX1_isBetter RX1 := S
  generalize ([.ref q_this, .long a1, .int a3, .int a4, .int a5] : List Value).toArray = args at S hret ⊢
  obtain ⟨hx, hb, hml, hown, hts⟩ := id S
  replace hl : lv_has ls 7 [(0, .ref q_this), (1, .long a1), (3, .int a3), (4, .int a4), (5, .int a5)] := hl
  unfold shX1_isBetter at hsh
  have Jj_16 : ∀ (H : Heap) (locs : List Loc), va_P D vwCl (wdX1_isBetter cI cJ cZ q_this q_gains q_roads q_steps q_worths q_depths q_rivals q_order v_admitted v_made v_worth v_set v_pipes v_days v_stops w_gains w_worths w_depths w_rivals) H → va_D A (wdX1_isBetter cI cJ cZ q_this q_gains q_roads q_steps q_worths q_depths q_rivals q_order v_admitted v_made v_worth v_set v_pipes v_days v_stops w_gains w_worths w_depths w_rivals) → va_S A s.heap H locs → ∀ ls : Array Slot, lv_has ls 7 [(0, .ref q_this), (1, .long a1)] → shX1_isBetter_j_16 a1 v_made v_worth w_rivals = some o → W p l e rmX1_isBetter s m args below meth c H locs 0 0 Q (F0 m 16 ls []) := by
    intro  H locs hP hD hS ls hl hsh
    unfold shX1_isBetter_j_16 at hsh
    refine lv_aload_n hx hb dX1_isBetter_16 rfl (lv_at hl 0 rfl) ?_
    refine kget (ci := 1) S hK hP rfl inX1_isBetter_X1 0 rfl 5 (by decide) lkX1_isBetter_35 rfl dX1_isBetter_17 ?_
    refine lv_if_eq (tgt := 32) hx hb dX1_isBetter_20 (by decide) (fun c1 => ?_) (fun c1 => ?_)
    · skip
      have hsh := ite_t hsh c1
      refine lv_iconst (v := (1 : Int32)) hx hb dX1_isBetter_32 (by decide) ?_
      refine lv_goto (tgt := 37) hx hb dX1_isBetter_33 (by decide) ?_
      have ho := Option.some.inj hsh
      rw [← ho] at hret
      exact hret _ _ _ _ nar1 dX1_isBetter_37 hP hD hS
    · skip
      have hsh := ite_f hsh c1
      refine lv_lload_n hx hb dX1_isBetter_23 rfl (lv_at hl 1 rfl) ?_
      refine lv_aload_n hx hb dX1_isBetter_24 rfl (lv_at hl 0 rfl) ?_
      refine kget (ci := 1) S hK hP rfl inX1_isBetter_X1 0 rfl 6 (by decide) lkX1_isBetter_39 rfl dX1_isBetter_25 ?_
      refine W.lcmp hx hb dX1_isBetter_28 ?_
      refine lv_if_le (tgt := 36) hx hb dX1_isBetter_29 (by decide) (fun c1 => ?_) (fun c1 => ?_)
      · have c1 := (lg_cmp_le _ _).mp c1
        have hsh := ite_t hsh c1
        refine lv_iconst (v := (0 : Int32)) hx hb dX1_isBetter_36 (by decide) ?_
        have ho := Option.some.inj hsh
        rw [← ho] at hret
        exact hret _ _ _ _ nar0 dX1_isBetter_37 hP hD hS
      · have c1 := fun h => c1 ((lg_cmp_le _ _).mpr h)
        have hsh := ite_f hsh c1
        refine lv_iconst (v := (1 : Int32)) hx hb dX1_isBetter_32 (by decide) ?_
        refine lv_goto (tgt := 37) hx hb dX1_isBetter_33 (by decide) ?_
        have ho := Option.some.inj hsh
        rw [← ho] at hret
        exact hret _ _ _ _ nar1 dX1_isBetter_37 hP hD hS
  have Jj_124 : ∀ (x6_j_124 : Int32) (w_rivals_j_124 : Nat → Int32) (H : Heap) (locs : List Loc), va_P D vwCl (wdX1_isBetter cI cJ cZ q_this q_gains q_roads q_steps q_worths q_depths q_rivals q_order v_admitted v_made v_worth v_set v_pipes v_days v_stops w_gains w_worths w_depths w_rivals_j_124) H → va_D A (wdX1_isBetter cI cJ cZ q_this q_gains q_roads q_steps q_worths q_depths q_rivals q_order v_admitted v_made v_worth v_set v_pipes v_days v_stops w_gains w_worths w_depths w_rivals_j_124) → va_S A s.heap H locs → ∀ ls : Array Slot, lv_has ls 7 [(0, .ref q_this), (6, .int x6_j_124)] → shX1_isBetter_j_124 w_depths x6_j_124 w_rivals_j_124 = some o → W p l e rmX1_isBetter s m args below meth c H locs 0 0 Q (F0 m 124 ls []) := by
    intro x6_j_124 w_rivals_j_124 H locs hP hD hS ls hl hsh
    unfold shX1_isBetter_j_124 at hsh
    refine lv_aload_n hx hb dX1_isBetter_124 rfl (lv_at hl 0 rfl) ?_
    refine kget (ci := 1) S hK hP rfl inX1_isBetter_X1 0 rfl 12 (by decide) lkX1_isBetter_58 rfl dX1_isBetter_125 ?_
    refine lv_iload hx hb dX1_isBetter_128 (lv_at hl 1 rfl) ?_
    obtain ⟨_, hg, hsh⟩ := bd hsh
    refine kial S hK hP 4 0 rfl rfl (gd_in hg) dX1_isBetter_130 ?_
    refine lv_aload_n hx hb dX1_isBetter_131 rfl (lv_at hl 0 rfl) ?_
    refine kget (ci := 1) S hK hP rfl inX1_isBetter_X1 0 rfl 11 (by decide) lkX1_isBetter_55 rfl dX1_isBetter_132 ?_
    refine lv_iload hx hb dX1_isBetter_135 (lv_at hl 1 rfl) ?_
    obtain ⟨_, hg, hsh⟩ := bd hsh
    refine kial S hK hP 3 0 rfl rfl (gd_in hg) dX1_isBetter_137 ?_
    refine lv_icmp_ge (tgt := 145) hx hb dX1_isBetter_138 (by decide) (fun c1 => ?_) (fun c1 => ?_)
    · skip
      have hsh := ite_t hsh c1
      refine lv_iconst (v := (0 : Int32)) hx hb dX1_isBetter_145 (by decide) ?_
      have ho := Option.some.inj hsh
      rw [← ho] at hret
      exact hret _ _ _ _ nar0 dX1_isBetter_146 hP hD hS
    · skip
      have hsh := ite_f hsh c1
      refine lv_iconst (v := (1 : Int32)) hx hb dX1_isBetter_141 (by decide) ?_
      refine lv_goto (tgt := 146) hx hb dX1_isBetter_142 (by decide) ?_
      have ho := Option.some.inj hsh
      rw [← ho] at hret
      exact hret _ _ _ _ nar1 dX1_isBetter_146 hP hD hS
  have Jj_153 : ∀ (w_rivals_j_153 : Nat → Int32) (H : Heap) (locs : List Loc), va_P D vwCl (wdX1_isBetter cI cJ cZ q_this q_gains q_roads q_steps q_worths q_depths q_rivals q_order v_admitted v_made v_worth v_set v_pipes v_days v_stops w_gains w_worths w_depths w_rivals_j_153) H → va_D A (wdX1_isBetter cI cJ cZ q_this q_gains q_roads q_steps q_worths q_depths q_rivals q_order v_admitted v_made v_worth v_set v_pipes v_days v_stops w_gains w_worths w_depths w_rivals_j_153) → va_S A s.heap H locs → ∀ ls : Array Slot, lv_has ls 7 [] → shX1_isBetter_j_153 w_rivals_j_153 = some o → W p l e rmX1_isBetter s m args below meth c H locs 0 0 Q (F0 m 153 ls []) := by
    intro w_rivals_j_153 H locs hP hD hS ls hl hsh
    unfold shX1_isBetter_j_153 at hsh
    refine lv_iconst (v := (0 : Int32)) hx hb dX1_isBetter_153 (by decide) ?_
    have ho := Option.some.inj hsh
    rw [← ho] at hret
    exact hret _ _ _ _ nar0 dX1_isBetter_154 hP hD hS
  refine lv_aload_n hx hb dX1_isBetter_0 rfl (lv_at hl 0 rfl) ?_
  refine kget (ci := 1) S hK hP rfl inX1_isBetter_X1 0 rfl 5 (by decide) lkX1_isBetter_35 rfl dX1_isBetter_1 ?_
  refine lv_if_eq (tgt := 16) hx hb dX1_isBetter_4 (by decide) (fun c1 => ?_) (fun c1 => ?_)
  · skip
    have hsh := ite_t hsh c1
    exact Jj_16  H locs hP hD hS ls (lv_sub hl [0, 1] rfl) hsh
  · skip
    have hsh := ite_f hsh c1
    refine lv_lload_n hx hb dX1_isBetter_7 rfl (lv_at hl 1 rfl) ?_
    refine lv_aload_n hx hb dX1_isBetter_8 rfl (lv_at hl 0 rfl) ?_
    refine kget (ci := 1) S hK hP rfl inX1_isBetter_X1 0 rfl 6 (by decide) lkX1_isBetter_39 rfl dX1_isBetter_9 ?_
    refine W.lcmp hx hb dX1_isBetter_12 ?_
    refine lv_if_eq (tgt := 38) hx hb dX1_isBetter_13 (by decide) (fun c1 => ?_) (fun c1 => ?_)
    · have c1 := lc_eq.mp c1
      have hsh := ite_t hsh c1
      refine lv_iload hx hb dX1_isBetter_38 (lv_at hl 3 rfl) ?_
      refine lv_aload_n hx hb dX1_isBetter_40 rfl (lv_at hl 0 rfl) ?_
      refine kget (ci := 1) S hK hP rfl inX1_isBetter_X1 0 rfl 8 (by decide) lkX1_isBetter_46 rfl dX1_isBetter_41 ?_
      refine lv_icmp_eq (tgt := 62) hx hb dX1_isBetter_44 (by decide) (fun c1 => ?_) (fun c1 => ?_)
      · skip
        have hsh := ite_t hsh c1
        refine lv_iload hx hb dX1_isBetter_62 (lv_at hl 4 rfl) ?_
        refine lv_aload_n hx hb dX1_isBetter_64 rfl (lv_at hl 0 rfl) ?_
        refine kget (ci := 1) S hK hP rfl inX1_isBetter_X1 0 rfl 9 (by decide) lkX1_isBetter_49 rfl dX1_isBetter_65 ?_
        refine lv_icmp_eq (tgt := 86) hx hb dX1_isBetter_68 (by decide) (fun c1 => ?_) (fun c1 => ?_)
        · skip
          have hsh := ite_t hsh c1
          refine lv_aload_n hx hb dX1_isBetter_86 rfl (lv_at hl 0 rfl) ?_
          refine lv_iload_n hx hb dX1_isBetter_87 rfl (lv_at hl 2 rfl) ?_
          refine lv_iload hx hb dX1_isBetter_88 (lv_at hl 3 rfl) ?_
          refine lv_aload_n hx hb dX1_isBetter_90 rfl (lv_at hl 0 rfl) ?_
          refine kget (ci := 1) S hK hP rfl inX1_isBetter_X1 0 rfl 12 (by decide) lkX1_isBetter_58 rfl dX1_isBetter_91 ?_
          obtain ⟨o_94, he, hsh⟩ := bd hsh
          refine kVv (ci := 1) S hK hA (ctX1_layDepths l D cI cJ cZ q_this q_rivals q_gains q_roads q_steps q_worths q_depths q_rivals q_order v_admitted v_made v_worth v_set v_pipes v_days v_stops w_gains w_worths w_rivals a3 a4 o_94 he) noE_cl (cwV 3 hts gX1_isBetter_X1_layDepths rfl rfl rfl hdX1_layDepths ⟨Nat.le_of_ble_eq_true rfl, Nat.le_of_ble_eq_true rfl⟩) rfl 0 rfl [0, 1, 2, 4] [3] [1, 2, 3, 0, 4] (ws' := (wdX1_isBetter cI cJ cZ q_this q_gains q_roads q_steps q_worths q_depths q_rivals q_order v_admitted v_made v_worth v_set v_pipes v_days v_stops w_gains w_worths w_depths o_94)) ⟨rfl, rfl, rfl, rfl, rfl, rfl, rfl⟩ trivial rfl hl.1 rfl (Nat.le_of_ble_eq_true rfl) dX1_isBetter_94 hP hD hS (fun H locs hP hD hS => ?_)
          refine lv_iconst (v := (1 : Int32)) hx hb dX1_isBetter_97 (by decide) ?_
          refine lv_istore (lv' := [(6, .int (1 : Int32)), (0, .ref q_this), (1, .long a1), (3, .int a3), (4, .int a4), (5, .int a5)]) hx hb dX1_isBetter_98 hl (by decide) rfl (fun ls hl => ?_)
          obtain ⟨r_100, hl_100, hk_100⟩ := bd hsh
          obtain ⟨n_100, hn_100⟩ := lp_iff.mp hl_100
          have L_100 : ∀ (n : Nat) (x6_100 : Int32) (H : Heap) (locs : List Loc), va_P D vwCl (wdX1_isBetter cI cJ cZ q_this q_gains q_roads q_steps q_worths q_depths q_rivals q_order v_admitted v_made v_worth v_set v_pipes v_days v_stops w_gains w_worths w_depths o_94) H → va_D A (wdX1_isBetter cI cJ cZ q_this q_gains q_roads q_steps q_worths q_depths q_rivals q_order v_admitted v_made v_worth v_set v_pipes v_days v_stops w_gains w_worths w_depths o_94) → va_S A s.heap H locs → ∀ ls : Array Slot, lv_has ls 7 [(0, .ref q_this), (6, .int x6_100)] → it (fun s : Int32 => shX1_isBetter_L100 w_depths o_94 s) n x6_100 = some r_100 → W p l e rmX1_isBetter s m args below meth c H locs 0 0 Q (F0 m 100 ls []) := by
            intro n
            induction n with
            | zero => exact fun _ _ _ _ _ _ _ _ hi => it_0 hi
            | succ n ih_100 =>
              intro x6_100 H locs hP hD hS ls hl hi
              obtain ⟨b_100, hsh, hB1_100, hB2_100⟩ := it_b hi
              replace hsh : shX1_isBetter_L100 w_depths o_94 x6_100 = some b_100 := hsh
              unfold shX1_isBetter_L100 at hsh
              refine lv_iload hx hb dX1_isBetter_100 (lv_at hl 1 rfl) ?_
              refine lv_bipush (v := (8 : Int32)) hx hb dX1_isBetter_102 (by decide) ?_
              refine lv_icmp_ge (tgt := 153) hx hb dX1_isBetter_104 (by decide) (fun c1 => ?_) (fun c1 => ?_)
              · skip
                have hsh := ite_t hsh c1
                have he := hB2_100 _ hsh
                rw [← he] at hk_100
                have hk_100 := se_r hk_100
                exact Jj_153 o_94 H locs hP hD hS ls (lv_sub hl [] rfl) hk_100
              · skip
                have hsh := ite_f hsh c1
                refine lv_aload_n hx hb dX1_isBetter_107 rfl (lv_at hl 0 rfl) ?_
                refine kget (ci := 1) S hK hP rfl inX1_isBetter_X1 0 rfl 12 (by decide) lkX1_isBetter_58 rfl dX1_isBetter_108 ?_
                refine lv_iload hx hb dX1_isBetter_111 (lv_at hl 1 rfl) ?_
                obtain ⟨_, hg, hsh⟩ := bd hsh
                refine kial S hK hP 4 0 rfl rfl (gd_in hg) dX1_isBetter_113 ?_
                refine lv_aload_n hx hb dX1_isBetter_114 rfl (lv_at hl 0 rfl) ?_
                refine kget (ci := 1) S hK hP rfl inX1_isBetter_X1 0 rfl 11 (by decide) lkX1_isBetter_55 rfl dX1_isBetter_115 ?_
                refine lv_iload hx hb dX1_isBetter_118 (lv_at hl 1 rfl) ?_
                obtain ⟨_, hg, hsh⟩ := bd hsh
                refine kial S hK hP 3 0 rfl rfl (gd_in hg) dX1_isBetter_120 ?_
                refine lv_icmp_eq (tgt := 147) hx hb dX1_isBetter_121 (by decide) (fun c1 => ?_) (fun c1 => ?_)
                · skip
                  have hsh := ite_t hsh c1
                  refine lv_iinc (v := (x6_100 + (1 : Int32))) (lv' := [(6, .int (x6_100 + (1 : Int32))), (0, .ref q_this)]) hx hb dX1_isBetter_147 hl (k := 1) rfl (congrArg (fun z : Int32 => x6_100 + z) (by decide)) (by decide) rfl (fun ls hl => ?_)
                  refine lv_goto (tgt := 100) hx hb dX1_isBetter_150 (by decide) ?_
                  exact ih_100 (x6_100 + (1 : Int32)) H locs hP hD hS ls (lv_sub hl [1, 0] rfl) (hB1_100 _ hsh)
                · skip
                  have hsh := ite_f hsh c1
                  have he := hB2_100 _ hsh
                  rw [← he] at hk_100
                  have hk_100 := se_l hk_100
                  exact Jj_124 x6_100 o_94 H locs hP hD hS ls (lv_sub hl [0, 1] rfl) hk_100
          exact L_100 n_100 (1 : Int32) H locs hP hD hS ls (lv_sub hl [1, 0] rfl) hn_100
        · skip
          have hsh := ite_f hsh c1
          refine lv_iload hx hb dX1_isBetter_71 (lv_at hl 4 rfl) ?_
          refine lv_aload_n hx hb dX1_isBetter_73 rfl (lv_at hl 0 rfl) ?_
          refine kget (ci := 1) S hK hP rfl inX1_isBetter_X1 0 rfl 9 (by decide) lkX1_isBetter_49 rfl dX1_isBetter_74 ?_
          refine lv_icmp_ge (tgt := 84) hx hb dX1_isBetter_77 (by decide) (fun c1 => ?_) (fun c1 => ?_)
          · skip
            have hsh := ite_t hsh c1
            refine lv_iconst (v := (0 : Int32)) hx hb dX1_isBetter_84 (by decide) ?_
            have ho := Option.some.inj hsh
            rw [← ho] at hret
            exact hret _ _ _ _ nar0 dX1_isBetter_85 hP hD hS
          · skip
            have hsh := ite_f hsh c1
            refine lv_iconst (v := (1 : Int32)) hx hb dX1_isBetter_80 (by decide) ?_
            refine lv_goto (tgt := 85) hx hb dX1_isBetter_81 (by decide) ?_
            have ho := Option.some.inj hsh
            rw [← ho] at hret
            exact hret _ _ _ _ nar1 dX1_isBetter_85 hP hD hS
      · skip
        have hsh := ite_f hsh c1
        refine lv_iload hx hb dX1_isBetter_47 (lv_at hl 3 rfl) ?_
        refine lv_aload_n hx hb dX1_isBetter_49 rfl (lv_at hl 0 rfl) ?_
        refine kget (ci := 1) S hK hP rfl inX1_isBetter_X1 0 rfl 8 (by decide) lkX1_isBetter_46 rfl dX1_isBetter_50 ?_
        refine lv_icmp_ge (tgt := 60) hx hb dX1_isBetter_53 (by decide) (fun c1 => ?_) (fun c1 => ?_)
        · skip
          have hsh := ite_t hsh c1
          refine lv_iconst (v := (0 : Int32)) hx hb dX1_isBetter_60 (by decide) ?_
          have ho := Option.some.inj hsh
          rw [← ho] at hret
          exact hret _ _ _ _ nar0 dX1_isBetter_61 hP hD hS
        · skip
          have hsh := ite_f hsh c1
          refine lv_iconst (v := (1 : Int32)) hx hb dX1_isBetter_56 (by decide) ?_
          refine lv_goto (tgt := 61) hx hb dX1_isBetter_57 (by decide) ?_
          have ho := Option.some.inj hsh
          rw [← ho] at hret
          exact hret _ _ _ _ nar1 dX1_isBetter_61 hP hD hS
    · have c1 := fun h => c1 (lc_eq.mpr h)
      have hsh := ite_f hsh c1
      exact Jj_16  H locs hP hD hS ls (lv_sub hl [0, 1] rfl) hsh

/-! DryWells$Planner.offer -/
noncomputable def shX1_offer (a1 : Int32) (a2 : Int32) (a3 : Int32) (v_made : Int32) (v_worth : Int64) (v_set : Int32) (v_pipes : Int32) (v_days : Int32) (w_gains : Nat → Int64) (w_worths : Nat → Int64) (w_depths : Nat → Int32) (w_rivals : Nat → Int32) : Option (Int32 × Int64 × Int32 × Int32 × Int32 × (Nat → Int32) × (Nat → Int32)) :=
  ((gd ((a1 * (29 : Int32)) + a2) 3712).bind fun _ => (if (w_worths (((a1 * (29 : Int32)) + a2)).toNatClampNeg) = (-1 : Int64) then some (v_made, v_worth, v_set, v_pipes, v_days, w_depths, w_rivals) else ((shX1_isBetter (w_worths (((a1 * (29 : Int32)) + a2)).toNatClampNeg) a1 a2 a3 v_made v_worth v_pipes v_days w_gains w_worths w_depths w_rivals).bind fun o_28 => (if ¬ o_28.1 = 0 then ((shX1_layDepths a1 a2 w_gains w_worths w_depths).bind fun o_68 => some ((1 : Int32), (w_worths (((a1 * (29 : Int32)) + a2)).toNatClampNeg), a1, a2, a3, o_68, o_28.2)) else some (v_made, v_worth, v_set, v_pipes, v_days, w_depths, o_28.2)))))
def wdX1_offer (cI cJ cZ : ClassId) (q_this q_gains q_roads q_steps q_worths q_depths q_rivals q_order : Nat) (v_admitted : Int32) (v_made : Int32) (v_worth : Int64) (v_set : Int32) (v_pipes : Int32) (v_days : Int32) (v_stops : Int32) (w_gains : Nat → Int64) (w_worths : Nat → Int64) (w_depths : Nat → Int32) (w_rivals : Nat → Int32) : va_W := [(q_this, .inr (1, [.int v_admitted, .ref q_gains, .ref q_roads, .ref q_steps, .ref q_worths, .int v_made, .long v_worth, .int v_set, .int v_pipes, .int v_days, .int v_stops, .ref q_depths, .ref q_rivals, .ref q_order])), (q_gains, .inl (cJ, 40, .inr (.inl w_gains))), (q_worths, .inl (cJ, 3712, .inr (.inl w_worths))), (q_depths, .inl (cI, 8, .inl w_depths)), (q_rivals, .inl (cI, 8, .inl w_rivals))]
abbrev rmX1_offer : Room := { frames := 4, cells := 0, slots := 0, locals := 106 }
theorem inX1_offer_X1 : ∀ w ∈ u_ws RX1 TX1 14, w ∈ wsX1_offer := fun _ h => List.mem_cons_of_mem _ (List.mem_append_right _ h)
theorem lkX1_offer_32 : Cond.fieldLink RX1 32 (TX1 4).1 (TX1 4).2.1 (TX1 4).2.2.1 ∈ wsX1_offer := List.mem_of_getElem? (i := 1) rfl
theorem lkX1_offer_35 : Cond.fieldLink RX1 35 (TX1 5).1 (TX1 5).2.1 (TX1 5).2.2.1 ∈ wsX1_offer := List.mem_of_getElem? (i := 3) rfl
theorem lkX1_offer_39 : Cond.fieldLink RX1 39 (TX1 6).1 (TX1 6).2.1 (TX1 6).2.2.1 ∈ wsX1_offer := List.mem_of_getElem? (i := 4) rfl
theorem lkX1_offer_43 : Cond.fieldLink RX1 43 (TX1 7).1 (TX1 7).2.1 (TX1 7).2.2.1 ∈ wsX1_offer := List.mem_of_getElem? (i := 5) rfl
theorem lkX1_offer_46 : Cond.fieldLink RX1 46 (TX1 8).1 (TX1 8).2.1 (TX1 8).2.2.1 ∈ wsX1_offer := List.mem_of_getElem? (i := 6) rfl
theorem lkX1_offer_49 : Cond.fieldLink RX1 49 (TX1 9).1 (TX1 9).2.1 (TX1 9).2.2.1 ∈ wsX1_offer := List.mem_of_getElem? (i := 7) rfl
theorem lkX1_offer_55 : Cond.fieldLink RX1 55 (TX1 11).1 (TX1 11).2.1 (TX1 11).2.2.1 ∈ wsX1_offer := List.mem_of_getElem? (i := 8) rfl
theorem hdX1_offer : yX1_offer.cls = RX1 ∧ yX1_offer.cls ≠ "java/lang/invoke/MethodHandle" ∧ yX1_offer.cls ≠ "java/lang/invoke/VarHandle" ∧ (parseMethodDescriptor yX1_offer.desc).map (fun d => d.parameters.length) = some 3 := by decide +kernel
set_option maxHeartbeats 4000000 in
set_option maxRecDepth 100000 in
theorem ctX1_offer (l : Launch) (D : va_G) (cI cJ cZ : ClassId) (q_this q_gains q_roads q_steps q_worths q_depths q_rivals q_order : Nat) (v_admitted : Int32) (v_made : Int32) (v_worth : Int64) (v_set : Int32) (v_pipes : Int32) (v_days : Int32) (v_stops : Int32) (w_gains : Nat → Int64) (w_worths : Nat → Int64) (w_depths : Nat → Int32) (w_rivals : Nat → Int32) (a1 : Int32) (a2 : Int32) (a3 : Int32) (o : Int32 × Int64 × Int32 × Int32 × Int32 × (Nat → Int32) × (Nat → Int32)) (hsh : shX1_offer a1 a2 a3 v_made v_worth v_set v_pipes v_days w_gains w_worths w_depths w_rivals = some o) : CtV l yX1_offer wsX1_offer rmX1_offer D (tys3 cI cJ cZ) noE (wdX1_offer cI cJ cZ q_this q_gains q_roads q_steps q_worths q_depths q_rivals q_order v_admitted v_made v_worth v_set v_pipes v_days v_stops w_gains w_worths w_depths w_rivals) [.ref q_this, .int a1, .int a2, .int a3]  (wdX1_offer cI cJ cZ q_this q_gains q_roads q_steps q_worths q_depths q_rivals q_order v_admitted o.1 o.2.1 o.2.2.1 o.2.2.2.1 o.2.2.2.2.1 v_stops w_gains w_worths o.2.2.2.2.2.1 o.2.2.2.2.2.2) := by
  refine ctV plX1 rfl (Nat.le_of_ble_eq_true rfl) ?_
  intro p e s m below meth c A Q S hK hA hE hret H locs hP hD hS ls hl
  replace S : CallFix p m c cX1_offer 6 s _ wsX1_offer RX1 := S
  generalize ([.ref q_this, .int a1, .int a2, .int a3] : List Value).toArray = args at S hret ⊢
  obtain ⟨hx, hb, hml, hown, hts⟩ := id S
  replace hl : lv_has ls 6 [(0, .ref q_this), (1, .int a1), (2, .int a2), (3, .int a3)] := hl
  unfold shX1_offer at hsh
  refine lv_aload_n hx hb dX1_offer_0 rfl (lv_at hl 0 rfl) ?_
  refine kget (ci := 1) S hK hP rfl inX1_offer_X1 0 rfl 4 (by decide) lkX1_offer_32 rfl dX1_offer_1 ?_
  refine lv_iload_n hx hb dX1_offer_4 rfl (lv_at hl 1 rfl) ?_
  refine lv_bipush (v := (29 : Int32)) hx hb dX1_offer_5 (by decide) ?_
  refine lv_imul hx hb dX1_offer_7 ?_
  refine lv_iload_n hx hb dX1_offer_8 rfl (lv_at hl 2 rfl) ?_
  refine lv_iadd hx hb dX1_offer_9 ?_
  obtain ⟨_, hg, hsh⟩ := bd hsh
  refine klal S hK hP 2 1 rfl rfl (gd_in hg) dX1_offer_10 ?_
  refine lv_lstore (lv' := [(4, .long (w_worths (((a1 * (29 : Int32)) + a2)).toNatClampNeg)), (0, .ref q_this), (1, .int a1), (2, .int a2), (3, .int a3)]) hx hb dX1_offer_11 hl (by decide) rfl (fun ls hl => ?_)
  refine lv_lload hx hb dX1_offer_13 (lv_at hl 0 rfl) ?_
  refine lv_ldc2 hx hb hown (v := (-1 : Int64)) (hts _ (List.mem_of_getElem? (i := 2) rfl)) dX1_offer_15 ?_
  refine W.lcmp hx hb dX1_offer_18 ?_
  refine lv_if_eq (tgt := 34) hx hb dX1_offer_19 (by decide) (fun c1 => ?_) (fun c1 => ?_)
  · have c1 := lc_eq.mp c1
    have hsh := ite_t hsh c1
    have ho := Option.some.inj hsh
    rw [← ho] at hret
    exact hret _ _ _ _ dX1_offer_34 hP hD hS
  · have c1 := fun h => c1 (lc_eq.mpr h)
    have hsh := ite_f hsh c1
    refine lv_aload_n hx hb dX1_offer_22 rfl (lv_at hl 1 rfl) ?_
    refine lv_lload hx hb dX1_offer_23 (lv_at hl 0 rfl) ?_
    refine lv_iload_n hx hb dX1_offer_25 rfl (lv_at hl 2 rfl) ?_
    refine lv_iload_n hx hb dX1_offer_26 rfl (lv_at hl 3 rfl) ?_
    refine lv_iload_n hx hb dX1_offer_27 rfl (lv_at hl 4 rfl) ?_
    obtain ⟨o_28, he, hsh⟩ := bd hsh
    refine kVi (ci := 1) S hK hA (ctX1_isBetter l D cI cJ cZ q_this q_gains q_roads q_steps q_worths q_depths q_rivals q_order v_admitted v_made v_worth v_set v_pipes v_days v_stops w_gains w_worths w_depths w_rivals (w_worths (((a1 * (29 : Int32)) + a2)).toNatClampNeg) a1 a2 a3 o_28 he) noE_cl (cwV 4 hts gX1_offer_X1_isBetter rfl rfl rfl hdX1_isBetter ⟨Nat.le_of_ble_eq_true rfl, Nat.le_of_ble_eq_true rfl⟩) rfl 0 rfl [0, 1, 2, 3, 4] [] [0, 1, 2, 3, 4] (ws' := (wdX1_offer cI cJ cZ q_this q_gains q_roads q_steps q_worths q_depths q_rivals q_order v_admitted v_made v_worth v_set v_pipes v_days v_stops w_gains w_worths w_depths o_28.2)) ⟨rfl, rfl, rfl, rfl, rfl, rfl, rfl⟩ trivial rfl hl.1 rfl (Nat.le_of_ble_eq_true rfl) dX1_offer_28 hP hD hS (fun H locs hP hD hS => ?_)
    refine lv_if_ne (tgt := 35) hx hb dX1_offer_31 (by decide) (fun c1 => ?_) (fun c1 => ?_)
    · skip
      have hsh := ite_t hsh c1
      refine lv_aload_n hx hb dX1_offer_35 rfl (lv_at hl 1 rfl) ?_
      refine lv_iconst (v := (1 : Int32)) hx hb dX1_offer_36 (by decide) ?_
      refine kput (ci := 1) S hK hP hD hS rfl inX1_offer_X1 tyX1_ok nmX1 0 rfl 5 (by decide) lkX1_offer_35 rfl rfl rfl (Nat.le_of_ble_eq_true rfl) (ws' := (wdX1_offer cI cJ cZ q_this q_gains q_roads q_steps q_worths q_depths q_rivals q_order v_admitted (1 : Int32) v_worth v_set v_pipes v_days v_stops w_gains w_worths w_depths o_28.2)) rfl dX1_offer_37 (fun H locs hP hD hS => ?_)
      refine lv_aload_n hx hb dX1_offer_40 rfl (lv_at hl 1 rfl) ?_
      refine lv_lload hx hb dX1_offer_41 (lv_at hl 0 rfl) ?_
      refine kput (ci := 1) S hK hP hD hS rfl inX1_offer_X1 tyX1_ok nmX1 0 rfl 6 (by decide) lkX1_offer_39 rfl rfl rfl (Nat.le_of_ble_eq_true rfl) (ws' := (wdX1_offer cI cJ cZ q_this q_gains q_roads q_steps q_worths q_depths q_rivals q_order v_admitted (1 : Int32) (w_worths (((a1 * (29 : Int32)) + a2)).toNatClampNeg) v_set v_pipes v_days v_stops w_gains w_worths w_depths o_28.2)) rfl dX1_offer_43 (fun H locs hP hD hS => ?_)
      refine lv_aload_n hx hb dX1_offer_46 rfl (lv_at hl 1 rfl) ?_
      refine lv_iload_n hx hb dX1_offer_47 rfl (lv_at hl 2 rfl) ?_
      refine kput (ci := 1) S hK hP hD hS rfl inX1_offer_X1 tyX1_ok nmX1 0 rfl 7 (by decide) lkX1_offer_43 rfl rfl rfl (Nat.le_of_ble_eq_true rfl) (ws' := (wdX1_offer cI cJ cZ q_this q_gains q_roads q_steps q_worths q_depths q_rivals q_order v_admitted (1 : Int32) (w_worths (((a1 * (29 : Int32)) + a2)).toNatClampNeg) a1 v_pipes v_days v_stops w_gains w_worths w_depths o_28.2)) rfl dX1_offer_48 (fun H locs hP hD hS => ?_)
      refine lv_aload_n hx hb dX1_offer_51 rfl (lv_at hl 1 rfl) ?_
      refine lv_iload_n hx hb dX1_offer_52 rfl (lv_at hl 3 rfl) ?_
      refine kput (ci := 1) S hK hP hD hS rfl inX1_offer_X1 tyX1_ok nmX1 0 rfl 8 (by decide) lkX1_offer_46 rfl rfl rfl (Nat.le_of_ble_eq_true rfl) (ws' := (wdX1_offer cI cJ cZ q_this q_gains q_roads q_steps q_worths q_depths q_rivals q_order v_admitted (1 : Int32) (w_worths (((a1 * (29 : Int32)) + a2)).toNatClampNeg) a1 a2 v_days v_stops w_gains w_worths w_depths o_28.2)) rfl dX1_offer_53 (fun H locs hP hD hS => ?_)
      refine lv_aload_n hx hb dX1_offer_56 rfl (lv_at hl 1 rfl) ?_
      refine lv_iload_n hx hb dX1_offer_57 rfl (lv_at hl 4 rfl) ?_
      refine kput (ci := 1) S hK hP hD hS rfl inX1_offer_X1 tyX1_ok nmX1 0 rfl 9 (by decide) lkX1_offer_49 rfl rfl rfl (Nat.le_of_ble_eq_true rfl) (ws' := (wdX1_offer cI cJ cZ q_this q_gains q_roads q_steps q_worths q_depths q_rivals q_order v_admitted (1 : Int32) (w_worths (((a1 * (29 : Int32)) + a2)).toNatClampNeg) a1 a2 a3 v_stops w_gains w_worths w_depths o_28.2)) rfl dX1_offer_58 (fun H locs hP hD hS => ?_)
      refine lv_aload_n hx hb dX1_offer_61 rfl (lv_at hl 1 rfl) ?_
      refine lv_iload_n hx hb dX1_offer_62 rfl (lv_at hl 2 rfl) ?_
      refine lv_iload_n hx hb dX1_offer_63 rfl (lv_at hl 3 rfl) ?_
      refine lv_aload_n hx hb dX1_offer_64 rfl (lv_at hl 1 rfl) ?_
      refine kget (ci := 1) S hK hP rfl inX1_offer_X1 0 rfl 11 (by decide) lkX1_offer_55 rfl dX1_offer_65 ?_
      obtain ⟨o_68, he, hsh⟩ := bd hsh
      refine kVv (ci := 1) S hK hA (ctX1_layDepths l D cI cJ cZ q_this q_depths q_gains q_roads q_steps q_worths q_depths q_rivals q_order v_admitted (1 : Int32) (w_worths (((a1 * (29 : Int32)) + a2)).toNatClampNeg) a1 a2 a3 v_stops w_gains w_worths w_depths a1 a2 o_68 he) noE_cl (cwV 3 hts gX1_offer_X1_layDepths rfl rfl rfl hdX1_layDepths ⟨Nat.le_of_ble_eq_true rfl, Nat.le_of_ble_eq_true rfl⟩) rfl 0 rfl [0, 1, 2, 3] [4] [1, 2, 3, 4, 0] (ws' := (wdX1_offer cI cJ cZ q_this q_gains q_roads q_steps q_worths q_depths q_rivals q_order v_admitted (1 : Int32) (w_worths (((a1 * (29 : Int32)) + a2)).toNatClampNeg) a1 a2 a3 v_stops w_gains w_worths o_68 o_28.2)) ⟨rfl, rfl, rfl, rfl, rfl, rfl, rfl⟩ trivial rfl hl.1 rfl (Nat.le_of_ble_eq_true rfl) dX1_offer_68 hP hD hS (fun H locs hP hD hS => ?_)
      have ho := Option.some.inj hsh
      rw [← ho] at hret
      exact hret _ _ _ _ dX1_offer_71 hP hD hS
    · skip
      have hsh := ite_f hsh (fun h => h c1)
      have ho := Option.some.inj hsh
      rw [← ho] at hret
      exact hret _ _ _ _ dX1_offer_34 hP hD hS

/-! DryWells$Planner.firstStop -/
noncomputable def shX1_firstStop_j_44 (x4_j_44 : Int32) : Option (Int32) :=
  some x4_j_44
noncomputable def shX1_firstStop_j_53 (a1 : Int32) : Option (Int32) :=
  ((shX1_firstOf a1).bind fun o_54 => some o_54)
noncomputable def shX1_firstStop_k15_47 (x4_15 : Int32) : Option ((Int32) ⊕ ((Int32) ⊕ (Unit))) :=
  some (Sum.inl (x4_15 + (1 : Int32)))
noncomputable def shX1_firstStop_L15 (a1 : Int32) (a2 : Int32) (w_roads : Nat → Int32) (w_steps : Nat → Int32) (x4_15 : Int32) : Option ((Int32) ⊕ ((Int32) ⊕ (Unit))) :=
  (if (8 : Int32) ≤ x4_15 then some (Sum.inr (Sum.inr ())) else ((shX1_bit x4_15).bind fun o_25 => (if (a1 &&& o_25) = 0 then (shX1_firstStop_k15_47 x4_15) else ((shX1_roadBy a1 a2 x4_15 w_roads w_steps).bind fun o_37 => (if ¬ o_37 = (w_roads (((a1 * (8 : Int32)) + a2)).toNatClampNeg) then (shX1_firstStop_k15_47 x4_15) else some (Sum.inr (Sum.inl x4_15)))))))
noncomputable def shX1_firstStop (a1 : Int32) (a2 : Int32) (w_roads : Nat → Int32) (w_steps : Nat → Int32) : Option (Int32) :=
  ((gd ((a1 * (8 : Int32)) + a2) 1024).bind fun _ => ((lp (fun s : Int32 => shX1_firstStop_L15 a1 a2 w_roads w_steps s) (1 : Int32)).bind (Sum.elim (fun p : Int32 => shX1_firstStop_j_44 p) (fun p : Unit => shX1_firstStop_j_53 a1))))
def wdX1_firstStop (cI cJ cZ : ClassId) (q_this q_gains q_roads q_steps q_worths q_depths q_rivals q_order : Nat) (v_admitted : Int32) (v_made : Int32) (v_worth : Int64) (v_set : Int32) (v_pipes : Int32) (v_days : Int32) (v_stops : Int32) (w_roads : Nat → Int32) (w_steps : Nat → Int32) : va_W := [(q_this, .inr (1, [.int v_admitted, .ref q_gains, .ref q_roads, .ref q_steps, .ref q_worths, .int v_made, .long v_worth, .int v_set, .int v_pipes, .int v_days, .int v_stops, .ref q_depths, .ref q_rivals, .ref q_order])), (q_roads, .inl (cI, 1024, .inl w_roads)), (q_steps, .inl (cI, 64, .inl w_steps))]
abbrev rmX1_firstStop : Room := { frames := 2, cells := 0, slots := 0, locals := 43 }
theorem inX1_firstStop_X1 : ∀ w ∈ u_ws RX1 TX1 14, w ∈ wsX1_firstStop := fun _ h => List.mem_cons_of_mem _ (List.mem_append_right _ h)
theorem lkX1_firstStop_25 : Cond.fieldLink RX1 25 (TX1 2).1 (TX1 2).2.1 (TX1 2).2.2.1 ∈ wsX1_firstStop := List.mem_of_getElem? (i := 1) rfl
theorem hdX1_firstStop : yX1_firstStop.cls = RX1 ∧ yX1_firstStop.cls ≠ "java/lang/invoke/MethodHandle" ∧ yX1_firstStop.cls ≠ "java/lang/invoke/VarHandle" ∧ (parseMethodDescriptor yX1_firstStop.desc).map (fun d => d.parameters.length) = some 2 := by decide +kernel
set_option maxHeartbeats 4000000 in
set_option maxRecDepth 100000 in
theorem ctX1_firstStop (l : Launch) (D : va_G) (cI cJ cZ : ClassId) (q_this q_gains q_roads q_steps q_worths q_depths q_rivals q_order : Nat) (v_admitted : Int32) (v_made : Int32) (v_worth : Int64) (v_set : Int32) (v_pipes : Int32) (v_days : Int32) (v_stops : Int32) (w_roads : Nat → Int32) (w_steps : Nat → Int32) (a1 : Int32) (a2 : Int32) (o : Int32) (hsh : shX1_firstStop a1 a2 w_roads w_steps = some o) : CtI l yX1_firstStop wsX1_firstStop rmX1_firstStop D (tys3 cI cJ cZ) noE (wdX1_firstStop cI cJ cZ q_this q_gains q_roads q_steps q_worths q_depths q_rivals q_order v_admitted v_made v_worth v_set v_pipes v_days v_stops w_roads w_steps) [.ref q_this, .int a1, .int a2] o (wdX1_firstStop cI cJ cZ q_this q_gains q_roads q_steps q_worths q_depths q_rivals q_order v_admitted v_made v_worth v_set v_pipes v_days v_stops w_roads w_steps) := by
  refine ctI plX1 rfl (Nat.le_of_ble_eq_true rfl) ?_
  intro p e s m below meth c A Q S hK hA hE hret H locs hP hD hS ls hl
  replace S : CallFix p m c cX1_firstStop 5 s _ wsX1_firstStop RX1 := S
  generalize ([.ref q_this, .int a1, .int a2] : List Value).toArray = args at S hret ⊢
  obtain ⟨hx, hb, hml, hown, hts⟩ := id S
  replace hl : lv_has ls 5 [(0, .ref q_this), (1, .int a1), (2, .int a2)] := hl
  unfold shX1_firstStop at hsh
  have Jj_44 : ∀ (x4_j_44 : Int32) (H : Heap) (locs : List Loc), va_P D vwCl (wdX1_firstStop cI cJ cZ q_this q_gains q_roads q_steps q_worths q_depths q_rivals q_order v_admitted v_made v_worth v_set v_pipes v_days v_stops w_roads w_steps) H → va_D A (wdX1_firstStop cI cJ cZ q_this q_gains q_roads q_steps q_worths q_depths q_rivals q_order v_admitted v_made v_worth v_set v_pipes v_days v_stops w_roads w_steps) → va_S A s.heap H locs → ∀ ls : Array Slot, lv_has ls 5 [(4, .int x4_j_44)] → shX1_firstStop_j_44 x4_j_44 = some o → W p l e rmX1_firstStop s m args below meth c H locs 0 0 Q (F0 m 44 ls []) := by
    intro x4_j_44 H locs hP hD hS ls hl hsh
    unfold shX1_firstStop_j_44 at hsh
    refine lv_iload hx hb dX1_firstStop_44 (lv_at hl 0 rfl) ?_
    have ho := Option.some.inj hsh
    rw [← ho] at hret
    exact hret _ _ _ _ dX1_firstStop_46 hP hD hS
  have Jj_53 : ∀ (H : Heap) (locs : List Loc), va_P D vwCl (wdX1_firstStop cI cJ cZ q_this q_gains q_roads q_steps q_worths q_depths q_rivals q_order v_admitted v_made v_worth v_set v_pipes v_days v_stops w_roads w_steps) H → va_D A (wdX1_firstStop cI cJ cZ q_this q_gains q_roads q_steps q_worths q_depths q_rivals q_order v_admitted v_made v_worth v_set v_pipes v_days v_stops w_roads w_steps) → va_S A s.heap H locs → ∀ ls : Array Slot, lv_has ls 5 [(1, .int a1)] → shX1_firstStop_j_53 a1 = some o → W p l e rmX1_firstStop s m args below meth c H locs 0 0 Q (F0 m 53 ls []) := by
    intro  H locs hP hD hS ls hl hsh
    unfold shX1_firstStop_j_53 at hsh
    refine lv_iload_n hx hb dX1_firstStop_53 rfl (lv_at hl 0 rfl) ?_
    obtain ⟨o_54, he, hsh⟩ := bd hsh
    refine kSi S hK hA (ctX1_firstOf l D cI cJ cZ a1 o_54 he) noE_cl (va_cwS 1 hts gX1_firstStop_X1_firstOf rfl rfl rfl hdX1_firstOf ⟨Nat.le_of_ble_eq_true rfl, Nat.le_of_ble_eq_true rfl⟩) [] [0, 1, 2] [0, 1, 2] (ws' := (wdX1_firstStop cI cJ cZ q_this q_gains q_roads q_steps q_worths q_depths q_rivals q_order v_admitted v_made v_worth v_set v_pipes v_days v_stops w_roads w_steps)) ⟨rfl, rfl, rfl, rfl, rfl, rfl, rfl⟩ trivial rfl hl.1 rfl (Nat.le_of_ble_eq_true rfl) dX1_firstStop_54 hP hD hS (fun H locs hP hD hS => ?_)
    have ho := Option.some.inj hsh
    rw [← ho] at hret
    exact hret _ _ _ _ dX1_firstStop_57 hP hD hS
  refine lv_aload_n hx hb dX1_firstStop_0 rfl (lv_at hl 0 rfl) ?_
  refine kget (ci := 1) S hK hP rfl inX1_firstStop_X1 0 rfl 2 (by decide) lkX1_firstStop_25 rfl dX1_firstStop_1 ?_
  refine lv_iload_n hx hb dX1_firstStop_4 rfl (lv_at hl 1 rfl) ?_
  refine lv_bipush (v := (8 : Int32)) hx hb dX1_firstStop_5 (by decide) ?_
  refine lv_imul hx hb dX1_firstStop_7 ?_
  refine lv_iload_n hx hb dX1_firstStop_8 rfl (lv_at hl 2 rfl) ?_
  refine lv_iadd hx hb dX1_firstStop_9 ?_
  obtain ⟨_, hg, hsh⟩ := bd hsh
  refine kial S hK hP 1 0 rfl rfl (gd_in hg) dX1_firstStop_10 ?_
  refine lv_istore_n (lv' := [(3, .int (w_roads (((a1 * (8 : Int32)) + a2)).toNatClampNeg)), (0, .ref q_this), (1, .int a1), (2, .int a2)]) hx hb dX1_firstStop_11 rfl hl (by decide) rfl (fun ls hl => ?_)
  refine lv_iconst (v := (1 : Int32)) hx hb dX1_firstStop_12 (by decide) ?_
  refine lv_istore (lv' := [(4, .int (1 : Int32)), (3, .int (w_roads (((a1 * (8 : Int32)) + a2)).toNatClampNeg)), (0, .ref q_this), (1, .int a1), (2, .int a2)]) hx hb dX1_firstStop_13 hl (by decide) rfl (fun ls hl => ?_)
  obtain ⟨r_15, hl_15, hk_15⟩ := bd hsh
  obtain ⟨n_15, hn_15⟩ := lp_iff.mp hl_15
  have L_15 : ∀ (n : Nat) (x4_15 : Int32) (H : Heap) (locs : List Loc), va_P D vwCl (wdX1_firstStop cI cJ cZ q_this q_gains q_roads q_steps q_worths q_depths q_rivals q_order v_admitted v_made v_worth v_set v_pipes v_days v_stops w_roads w_steps) H → va_D A (wdX1_firstStop cI cJ cZ q_this q_gains q_roads q_steps q_worths q_depths q_rivals q_order v_admitted v_made v_worth v_set v_pipes v_days v_stops w_roads w_steps) → va_S A s.heap H locs → ∀ ls : Array Slot, lv_has ls 5 [(0, .ref q_this), (1, .int a1), (2, .int a2), (3, .int (w_roads (((a1 * (8 : Int32)) + a2)).toNatClampNeg)), (4, .int x4_15)] → it (fun s : Int32 => shX1_firstStop_L15 a1 a2 w_roads w_steps s) n x4_15 = some r_15 → W p l e rmX1_firstStop s m args below meth c H locs 0 0 Q (F0 m 15 ls []) := by
    intro n
    induction n with
    | zero => exact fun _ _ _ _ _ _ _ _ hi => it_0 hi
    | succ n ih_15 =>
      intro x4_15 H locs hP hD hS ls hl hi
      obtain ⟨b_15, hsh, hB1_15, hB2_15⟩ := it_b hi
      replace hsh : shX1_firstStop_L15 a1 a2 w_roads w_steps x4_15 = some b_15 := hsh
      unfold shX1_firstStop_L15 at hsh
      have Jk15_47 : ∀ (H : Heap) (locs : List Loc), va_P D vwCl (wdX1_firstStop cI cJ cZ q_this q_gains q_roads q_steps q_worths q_depths q_rivals q_order v_admitted v_made v_worth v_set v_pipes v_days v_stops w_roads w_steps) H → va_D A (wdX1_firstStop cI cJ cZ q_this q_gains q_roads q_steps q_worths q_depths q_rivals q_order v_admitted v_made v_worth v_set v_pipes v_days v_stops w_roads w_steps) → va_S A s.heap H locs → ∀ ls : Array Slot, lv_has ls 5 [(0, .ref q_this), (1, .int a1), (2, .int a2), (3, .int (w_roads (((a1 * (8 : Int32)) + a2)).toNatClampNeg)), (4, .int x4_15)] → shX1_firstStop_k15_47 x4_15 = some b_15 → W p l e rmX1_firstStop s m args below meth c H locs 0 0 Q (F0 m 47 ls []) := by
        intro  H locs hP hD hS ls hl hsh
        unfold shX1_firstStop_k15_47 at hsh
        refine lv_iinc (v := (x4_15 + (1 : Int32))) (lv' := [(4, .int (x4_15 + (1 : Int32))), (0, .ref q_this), (1, .int a1), (2, .int a2), (3, .int (w_roads (((a1 * (8 : Int32)) + a2)).toNatClampNeg))]) hx hb dX1_firstStop_47 hl (k := 4) rfl (congrArg (fun z : Int32 => x4_15 + z) (by decide)) (by decide) rfl (fun ls hl => ?_)
        refine lv_goto (tgt := 15) hx hb dX1_firstStop_50 (by decide) ?_
        exact ih_15 (x4_15 + (1 : Int32)) H locs hP hD hS ls (lv_sub hl [1, 2, 3, 4, 0] rfl) (hB1_15 _ hsh)
      refine lv_iload hx hb dX1_firstStop_15 (lv_at hl 4 rfl) ?_
      refine lv_bipush (v := (8 : Int32)) hx hb dX1_firstStop_17 (by decide) ?_
      refine lv_icmp_ge (tgt := 53) hx hb dX1_firstStop_19 (by decide) (fun c1 => ?_) (fun c1 => ?_)
      · skip
        have hsh := ite_t hsh c1
        have he := hB2_15 _ hsh
        rw [← he] at hk_15
        have hk_15 := se_r hk_15
        exact Jj_53  H locs hP hD hS ls (lv_sub hl [1] rfl) hk_15
      · skip
        have hsh := ite_f hsh c1
        refine lv_iload_n hx hb dX1_firstStop_22 rfl (lv_at hl 1 rfl) ?_
        refine lv_iload hx hb dX1_firstStop_23 (lv_at hl 4 rfl) ?_
        obtain ⟨o_25, he, hsh⟩ := bd hsh
        refine kSi S hK hA (ctX1_bit l D cI cJ cZ x4_15 o_25 he) noE_cl (va_cwS 1 hts gX1_firstStop_X1_bit rfl rfl rfl hdX1_bit ⟨Nat.le_of_ble_eq_true rfl, Nat.le_of_ble_eq_true rfl⟩) [] [0, 1, 2] [0, 1, 2] (ws' := (wdX1_firstStop cI cJ cZ q_this q_gains q_roads q_steps q_worths q_depths q_rivals q_order v_admitted v_made v_worth v_set v_pipes v_days v_stops w_roads w_steps)) ⟨rfl, rfl, rfl, rfl, rfl, rfl, rfl⟩ trivial rfl hl.1 rfl (Nat.le_of_ble_eq_true rfl) dX1_firstStop_25 hP hD hS (fun H locs hP hD hS => ?_)
        refine lv_iand hx hb dX1_firstStop_28 ?_
        refine lv_if_eq (tgt := 47) hx hb dX1_firstStop_29 (by decide) (fun c1 => ?_) (fun c1 => ?_)
        · skip
          have hsh := ite_t hsh c1
          exact Jk15_47  H locs hP hD hS ls (lv_sub hl [0, 1, 2, 3, 4] rfl) hsh
        · skip
          have hsh := ite_f hsh c1
          refine lv_aload_n hx hb dX1_firstStop_32 rfl (lv_at hl 0 rfl) ?_
          refine lv_iload_n hx hb dX1_firstStop_33 rfl (lv_at hl 1 rfl) ?_
          refine lv_iload_n hx hb dX1_firstStop_34 rfl (lv_at hl 2 rfl) ?_
          refine lv_iload hx hb dX1_firstStop_35 (lv_at hl 4 rfl) ?_
          obtain ⟨o_37, he, hsh⟩ := bd hsh
          refine kVi (ci := 1) S hK hA (ctX1_roadBy l D cI cJ cZ q_this q_gains q_roads q_steps q_worths q_depths q_rivals q_order v_admitted v_made v_worth v_set v_pipes v_days v_stops w_roads w_steps a1 a2 x4_15 o_37 he) noE_cl (cwV 3 hts gX1_firstStop_X1_roadBy rfl rfl rfl hdX1_roadBy ⟨Nat.le_of_ble_eq_true rfl, Nat.le_of_ble_eq_true rfl⟩) rfl 0 rfl [0, 1, 2] [] [0, 1, 2] (ws' := (wdX1_firstStop cI cJ cZ q_this q_gains q_roads q_steps q_worths q_depths q_rivals q_order v_admitted v_made v_worth v_set v_pipes v_days v_stops w_roads w_steps)) ⟨rfl, rfl, rfl, rfl, rfl, rfl, rfl⟩ trivial rfl hl.1 rfl (Nat.le_of_ble_eq_true rfl) dX1_firstStop_37 hP hD hS (fun H locs hP hD hS => ?_)
          refine lv_iload_n hx hb dX1_firstStop_40 rfl (lv_at hl 3 rfl) ?_
          refine lv_icmp_ne (tgt := 47) hx hb dX1_firstStop_41 (by decide) (fun c1 => ?_) (fun c1 => ?_)
          · skip
            have hsh := ite_t hsh c1
            exact Jk15_47  H locs hP hD hS ls (lv_sub hl [0, 1, 2, 3, 4] rfl) hsh
          · skip
            have hsh := ite_f hsh (fun h => h c1)
            have he := hB2_15 _ hsh
            rw [← he] at hk_15
            have hk_15 := se_l hk_15
            exact Jj_44 x4_15 H locs hP hD hS ls (lv_sub hl [4] rfl) hk_15
  exact L_15 n_15 (1 : Int32) H locs hP hD hS ls (lv_sub hl [2, 3, 4, 1, 0] rfl) hn_15

/-! DryWells$Planner.layOrder -/
noncomputable def shX1_layOrder_j_55 (w_order_j_55 : Nat → Int32) : Option ((Nat → Int32)) :=
  some w_order_j_55
noncomputable def shX1_layOrder_L10 (v_stops : Int32) (w_roads : Nat → Int32) (w_steps : Nat → Int32) (x2_10 : Int32) (x3_10 : Int32) (x4_10 : Int32) (w_order_10 : Nat → Int32) : Option ((Int32 × Int32 × Int32 × (Nat → Int32)) ⊕ (((Nat → Int32)))) :=
  (if v_stops ≤ x4_10 then some (Sum.inr w_order_10) else ((shX1_firstStop x3_10 x2_10 w_roads w_steps).bind fun o_22 => ((gd x4_10 7).bind fun _ => ((shX1_bit o_22).bind fun o_39 => some (Sum.inl (o_22, (x3_10 &&& (o_39 ^^^ (-1 : Int32))), (x4_10 + (1 : Int32)), (upd w_order_10 (x4_10).toNatClampNeg o_22)))))))
noncomputable def shX1_layOrder (a1 : Int32) (v_set : Int32) (v_stops : Int32) (w_roads : Nat → Int32) (w_steps : Nat → Int32) (w_order : Nat → Int32) : Option ((Nat → Int32)) :=
  ((lp (fun s : Int32 × Int32 × Int32 × (Nat → Int32) => shX1_layOrder_L10 v_stops w_roads w_steps s.1 s.2.1 s.2.2.1 s.2.2.2) (a1, v_set, (0 : Int32), w_order)).bind (fun p : (Nat → Int32) => shX1_layOrder_j_55 p))
def wdX1_layOrder (cI cJ cZ : ClassId) (q_this q_gains q_roads q_steps q_worths q_depths q_rivals q_order : Nat) (v_admitted : Int32) (v_made : Int32) (v_worth : Int64) (v_set : Int32) (v_pipes : Int32) (v_days : Int32) (v_stops : Int32) (w_roads : Nat → Int32) (w_steps : Nat → Int32) (w_order : Nat → Int32) : va_W := [(q_this, .inr (1, [.int v_admitted, .ref q_gains, .ref q_roads, .ref q_steps, .ref q_worths, .int v_made, .long v_worth, .int v_set, .int v_pipes, .int v_days, .int v_stops, .ref q_depths, .ref q_rivals, .ref q_order])), (q_roads, .inl (cI, 1024, .inl w_roads)), (q_steps, .inl (cI, 64, .inl w_steps)), (q_order, .inl (cI, 7, .inl w_order))]
abbrev rmX1_layOrder : Room := { frames := 3, cells := 0, slots := 0, locals := 67 }
theorem inX1_layOrder_X1 : ∀ w ∈ u_ws RX1 TX1 14, w ∈ wsX1_layOrder := fun _ h => List.mem_cons_of_mem _ (List.mem_append_right _ h)
theorem lkX1_layOrder_43 : Cond.fieldLink RX1 43 (TX1 7).1 (TX1 7).2.1 (TX1 7).2.2.1 ∈ wsX1_layOrder := List.mem_of_getElem? (i := 1) rfl
theorem lkX1_layOrder_52 : Cond.fieldLink RX1 52 (TX1 10).1 (TX1 10).2.1 (TX1 10).2.2.1 ∈ wsX1_layOrder := List.mem_of_getElem? (i := 2) rfl
theorem lkX1_layOrder_61 : Cond.fieldLink RX1 61 (TX1 13).1 (TX1 13).2.1 (TX1 13).2.2.1 ∈ wsX1_layOrder := List.mem_of_getElem? (i := 3) rfl
theorem hdX1_layOrder : yX1_layOrder.cls = RX1 ∧ yX1_layOrder.cls ≠ "java/lang/invoke/MethodHandle" ∧ yX1_layOrder.cls ≠ "java/lang/invoke/VarHandle" ∧ (parseMethodDescriptor yX1_layOrder.desc).map (fun d => d.parameters.length) = some 1 := by decide +kernel
set_option maxHeartbeats 4000000 in
set_option maxRecDepth 100000 in
theorem ctX1_layOrder (l : Launch) (D : va_G) (cI cJ cZ : ClassId) (q_this q_gains q_roads q_steps q_worths q_depths q_rivals q_order : Nat) (v_admitted : Int32) (v_made : Int32) (v_worth : Int64) (v_set : Int32) (v_pipes : Int32) (v_days : Int32) (v_stops : Int32) (w_roads : Nat → Int32) (w_steps : Nat → Int32) (w_order : Nat → Int32) (a1 : Int32) (o : (Nat → Int32)) (hsh : shX1_layOrder a1 v_set v_stops w_roads w_steps w_order = some o) : CtV l yX1_layOrder wsX1_layOrder rmX1_layOrder D (tys3 cI cJ cZ) noE (wdX1_layOrder cI cJ cZ q_this q_gains q_roads q_steps q_worths q_depths q_rivals q_order v_admitted v_made v_worth v_set v_pipes v_days v_stops w_roads w_steps w_order) [.ref q_this, .int a1]  (wdX1_layOrder cI cJ cZ q_this q_gains q_roads q_steps q_worths q_depths q_rivals q_order v_admitted v_made v_worth v_set v_pipes v_days v_stops w_roads w_steps o) := by
  refine ctV plX1 rfl (Nat.le_of_ble_eq_true rfl) ?_
  intro p e s m below meth c A Q S hK hA hE hret H locs hP hD hS ls hl
  replace S : CallFix p m c cX1_layOrder 6 s _ wsX1_layOrder RX1 := S
  generalize ([.ref q_this, .int a1] : List Value).toArray = args at S hret ⊢
  obtain ⟨hx, hb, hml, hown, hts⟩ := id S
  replace hl : lv_has ls 6 [(0, .ref q_this), (1, .int a1)] := hl
  unfold shX1_layOrder at hsh
  have Jj_55 : ∀ (w_order_j_55 : Nat → Int32) (H : Heap) (locs : List Loc), va_P D vwCl (wdX1_layOrder cI cJ cZ q_this q_gains q_roads q_steps q_worths q_depths q_rivals q_order v_admitted v_made v_worth v_set v_pipes v_days v_stops w_roads w_steps w_order_j_55) H → va_D A (wdX1_layOrder cI cJ cZ q_this q_gains q_roads q_steps q_worths q_depths q_rivals q_order v_admitted v_made v_worth v_set v_pipes v_days v_stops w_roads w_steps w_order_j_55) → va_S A s.heap H locs → ∀ ls : Array Slot, lv_has ls 6 [] → shX1_layOrder_j_55 w_order_j_55 = some o → W p l e rmX1_layOrder s m args below meth c H locs 0 0 Q (F0 m 55 ls []) := by
    intro w_order_j_55 H locs hP hD hS ls hl hsh
    unfold shX1_layOrder_j_55 at hsh
    have ho := Option.some.inj hsh
    rw [← ho] at hret
    exact hret _ _ _ _ dX1_layOrder_55 hP hD hS
  refine lv_iload_n hx hb dX1_layOrder_0 rfl (lv_at hl 1 rfl) ?_
  refine lv_istore_n (lv' := [(2, .int a1), (0, .ref q_this), (1, .int a1)]) hx hb dX1_layOrder_1 rfl hl (by decide) rfl (fun ls hl => ?_)
  refine lv_aload_n hx hb dX1_layOrder_2 rfl (lv_at hl 1 rfl) ?_
  refine kget (ci := 1) S hK hP rfl inX1_layOrder_X1 0 rfl 7 (by decide) lkX1_layOrder_43 rfl dX1_layOrder_3 ?_
  refine lv_istore_n (lv' := [(3, .int v_set), (2, .int a1), (0, .ref q_this), (1, .int a1)]) hx hb dX1_layOrder_6 rfl hl (by decide) rfl (fun ls hl => ?_)
  refine lv_iconst (v := (0 : Int32)) hx hb dX1_layOrder_7 (by decide) ?_
  refine lv_istore (lv' := [(4, .int (0 : Int32)), (3, .int v_set), (2, .int a1), (0, .ref q_this), (1, .int a1)]) hx hb dX1_layOrder_8 hl (by decide) rfl (fun ls hl => ?_)
  obtain ⟨r_10, hl_10, hk_10⟩ := bd hsh
  obtain ⟨n_10, hn_10⟩ := lp_iff.mp hl_10
  have L_10 : ∀ (n : Nat) (x2_10 : Int32) (x3_10 : Int32) (x4_10 : Int32) (w_order_10 : Nat → Int32) (H : Heap) (locs : List Loc), va_P D vwCl (wdX1_layOrder cI cJ cZ q_this q_gains q_roads q_steps q_worths q_depths q_rivals q_order v_admitted v_made v_worth v_set v_pipes v_days v_stops w_roads w_steps w_order_10) H → va_D A (wdX1_layOrder cI cJ cZ q_this q_gains q_roads q_steps q_worths q_depths q_rivals q_order v_admitted v_made v_worth v_set v_pipes v_days v_stops w_roads w_steps w_order_10) → va_S A s.heap H locs → ∀ ls : Array Slot, lv_has ls 6 [(0, .ref q_this), (2, .int x2_10), (3, .int x3_10), (4, .int x4_10)] → it (fun s : Int32 × Int32 × Int32 × (Nat → Int32) => shX1_layOrder_L10 v_stops w_roads w_steps s.1 s.2.1 s.2.2.1 s.2.2.2) n (x2_10, x3_10, x4_10, w_order_10) = some r_10 → W p l e rmX1_layOrder s m args below meth c H locs 0 0 Q (F0 m 10 ls []) := by
    intro n
    induction n with
    | zero => exact fun _ _ _ _ _ _ _ _ _ _ _ hi => it_0 hi
    | succ n ih_10 =>
      intro x2_10 x3_10 x4_10 w_order_10 H locs hP hD hS ls hl hi
      obtain ⟨b_10, hsh, hB1_10, hB2_10⟩ := it_b hi
      replace hsh : shX1_layOrder_L10 v_stops w_roads w_steps x2_10 x3_10 x4_10 w_order_10 = some b_10 := hsh
      unfold shX1_layOrder_L10 at hsh
      refine lv_iload hx hb dX1_layOrder_10 (lv_at hl 3 rfl) ?_
      refine lv_aload_n hx hb dX1_layOrder_12 rfl (lv_at hl 0 rfl) ?_
      refine kget (ci := 1) S hK hP rfl inX1_layOrder_X1 0 rfl 10 (by decide) lkX1_layOrder_52 rfl dX1_layOrder_13 ?_
      refine lv_icmp_ge (tgt := 55) hx hb dX1_layOrder_16 (by decide) (fun c1 => ?_) (fun c1 => ?_)
      · skip
        have hsh := ite_t hsh c1
        have he := hB2_10 _ hsh
        rw [← he] at hk_10
        exact Jj_55 w_order_10 H locs hP hD hS ls (lv_sub hl [] rfl) hk_10
      · skip
        have hsh := ite_f hsh c1
        refine lv_aload_n hx hb dX1_layOrder_19 rfl (lv_at hl 0 rfl) ?_
        refine lv_iload_n hx hb dX1_layOrder_20 rfl (lv_at hl 2 rfl) ?_
        refine lv_iload_n hx hb dX1_layOrder_21 rfl (lv_at hl 1 rfl) ?_
        obtain ⟨o_22, he, hsh⟩ := bd hsh
        refine kVi (ci := 1) S hK hA (ctX1_firstStop l D cI cJ cZ q_this q_gains q_roads q_steps q_worths q_depths q_rivals q_order v_admitted v_made v_worth v_set v_pipes v_days v_stops w_roads w_steps x3_10 x2_10 o_22 he) noE_cl (cwV 2 hts gX1_layOrder_X1_firstStop rfl rfl rfl hdX1_firstStop ⟨Nat.le_of_ble_eq_true rfl, Nat.le_of_ble_eq_true rfl⟩) rfl 0 rfl [0, 1, 2] [3] [1, 2, 3, 0] (ws' := (wdX1_layOrder cI cJ cZ q_this q_gains q_roads q_steps q_worths q_depths q_rivals q_order v_admitted v_made v_worth v_set v_pipes v_days v_stops w_roads w_steps w_order_10)) ⟨rfl, rfl, rfl, rfl, rfl, rfl, rfl⟩ trivial rfl hl.1 rfl (Nat.le_of_ble_eq_true rfl) dX1_layOrder_22 hP hD hS (fun H locs hP hD hS => ?_)
        refine lv_istore (lv' := [(5, .int o_22), (0, .ref q_this), (2, .int x2_10), (3, .int x3_10), (4, .int x4_10)]) hx hb dX1_layOrder_25 hl (by decide) rfl (fun ls hl => ?_)
        refine lv_aload_n hx hb dX1_layOrder_27 rfl (lv_at hl 1 rfl) ?_
        refine kget (ci := 1) S hK hP rfl inX1_layOrder_X1 0 rfl 13 (by decide) lkX1_layOrder_61 rfl dX1_layOrder_28 ?_
        refine lv_iload hx hb dX1_layOrder_31 (lv_at hl 4 rfl) ?_
        refine lv_iload hx hb dX1_layOrder_33 (lv_at hl 0 rfl) ?_
        obtain ⟨_, hg, hsh⟩ := bd hsh
        refine kias S hK hP hD hS 3 0 rfl rfl (gd_in hg) (ws' := (wdX1_layOrder cI cJ cZ q_this q_gains q_roads q_steps q_worths q_depths q_rivals q_order v_admitted v_made v_worth v_set v_pipes v_days v_stops w_roads w_steps (upd w_order_10 (x4_10).toNatClampNeg o_22))) rfl dX1_layOrder_35 (fun H locs hP hD hS => ?_)
        refine lv_iload_n hx hb dX1_layOrder_36 rfl (lv_at hl 3 rfl) ?_
        refine lv_iload hx hb dX1_layOrder_37 (lv_at hl 0 rfl) ?_
        obtain ⟨o_39, he, hsh⟩ := bd hsh
        refine kSi S hK hA (ctX1_bit l D cI cJ cZ o_22 o_39 he) noE_cl (va_cwS 1 hts gX1_layOrder_X1_bit rfl rfl rfl hdX1_bit ⟨Nat.le_of_ble_eq_true rfl, Nat.le_of_ble_eq_true rfl⟩) [] [0, 1, 2, 3] [0, 1, 2, 3] (ws' := (wdX1_layOrder cI cJ cZ q_this q_gains q_roads q_steps q_worths q_depths q_rivals q_order v_admitted v_made v_worth v_set v_pipes v_days v_stops w_roads w_steps (upd w_order_10 (x4_10).toNatClampNeg o_22))) ⟨rfl, rfl, rfl, rfl, rfl, rfl, rfl⟩ trivial rfl hl.1 rfl (Nat.le_of_ble_eq_true rfl) dX1_layOrder_39 hP hD hS (fun H locs hP hD hS => ?_)
        refine lv_iconst (v := (-1 : Int32)) hx hb dX1_layOrder_42 (by decide) ?_
        refine lv_ixor hx hb dX1_layOrder_43 ?_
        refine lv_iand hx hb dX1_layOrder_44 ?_
        refine lv_istore_n (lv' := [(3, .int (x3_10 &&& (o_39 ^^^ (-1 : Int32)))), (5, .int o_22), (0, .ref q_this), (2, .int x2_10), (4, .int x4_10)]) hx hb dX1_layOrder_45 rfl hl (by decide) rfl (fun ls hl => ?_)
        refine lv_iload hx hb dX1_layOrder_46 (lv_at hl 1 rfl) ?_
        refine lv_istore_n (lv' := [(2, .int o_22), (3, .int (x3_10 &&& (o_39 ^^^ (-1 : Int32)))), (5, .int o_22), (0, .ref q_this), (4, .int x4_10)]) hx hb dX1_layOrder_48 rfl hl (by decide) rfl (fun ls hl => ?_)
        refine lv_iinc (v := (x4_10 + (1 : Int32))) (lv' := [(4, .int (x4_10 + (1 : Int32))), (2, .int o_22), (3, .int (x3_10 &&& (o_39 ^^^ (-1 : Int32)))), (5, .int o_22), (0, .ref q_this)]) hx hb dX1_layOrder_49 hl (k := 4) rfl (congrArg (fun z : Int32 => x4_10 + z) (by decide)) (by decide) rfl (fun ls hl => ?_)
        refine lv_goto (tgt := 10) hx hb dX1_layOrder_52 (by decide) ?_
        exact ih_10 o_22 (x3_10 &&& (o_39 ^^^ (-1 : Int32))) (x4_10 + (1 : Int32)) (upd w_order_10 (x4_10).toNatClampNeg o_22) H locs hP hD hS ls (lv_sub hl [4, 1, 2, 0] rfl) (hB1_10 _ hsh)
  exact L_10 n_10 a1 v_set (0 : Int32) w_order H locs hP hD hS ls (lv_sub hl [3, 2, 1, 0] rfl) hn_10

/-! DryWells$Planner.choose -/
noncomputable def shX1_choose_j_94 (a1 : Int32) (w_roads : Nat → Int32) (w_steps : Nat → Int32) (w_order : Nat → Int32) (v_made_j_94 : Int32) (v_worth_j_94 : Int64) (v_set_j_94 : Int32) (v_pipes_j_94 : Int32) (v_days_j_94 : Int32) (w_depths_j_94 : Nat → Int32) (w_rivals_j_94 : Nat → Int32) : Option (Int32 × Int64 × Int32 × Int32 × Int32 × Int32 × (Nat → Int32) × (Nat → Int32) × (Nat → Int32)) :=
  ((shJ6_bitCount_0f7a4 v_set_j_94).bind fun o_99 => ((shX1_layOrder a1 v_set_j_94 o_99 w_roads w_steps w_order).bind fun o_107 => some (v_made_j_94, v_worth_j_94, v_set_j_94, v_pipes_j_94, v_days_j_94, o_99, w_depths_j_94, w_rivals_j_94, o_107)))
noncomputable def shX1_choose_k8_88 (x5_8 : Int32) (v_made_k8_88 : Int32) (v_worth_k8_88 : Int64) (v_set_k8_88 : Int32) (v_pipes_k8_88 : Int32) (v_days_k8_88 : Int32) (w_depths_k8_88 : Nat → Int32) (w_rivals_k8_88 : Nat → Int32) : Option ((Int32 × Int32 × Int64 × Int32 × Int32 × Int32 × (Nat → Int32) × (Nat → Int32)) ⊕ ((Int32 × Int64 × Int32 × Int32 × Int32 × (Nat → Int32) × (Nat → Int32)))) :=
  some (Sum.inl ((x5_8 + (1 : Int32)), v_made_k8_88, v_worth_k8_88, v_set_k8_88, v_pipes_k8_88, v_days_k8_88, w_depths_k8_88, w_rivals_k8_88))
noncomputable def shX1_choose_L62 (a1 : Int32) (a2 : Int32) (a3 : Int32) (a4 : Int32) (w_gains : Nat → Int64) (w_roads : Nat → Int32) (w_worths : Nat → Int64) (x5_8 : Int32) (o_42 : Int32) (x8_62 : Int32) (v_made_62 : Int32) (v_worth_62 : Int64) (v_set_62 : Int32) (v_pipes_62 : Int32) (v_days_62 : Int32) (w_depths_62 : Nat → Int32) (w_rivals_62 : Nat → Int32) : Option ((Int32 × Int32 × Int64 × Int32 × Int32 × Int32 × (Nat → Int32) × (Nat → Int32)) ⊕ ((Int32 × Int64 × Int32 × Int32 × Int32 × (Nat → Int32) × (Nat → Int32)))) :=
  (if (if (a3 - ((w_roads (((x5_8 * (8 : Int32)) + a1)).toNatClampNeg) + (a4 * o_42))) < a2 then (a3 - ((w_roads (((x5_8 * (8 : Int32)) + a1)).toNatClampNeg) + (a4 * o_42))) else a2) < x8_62 then some (Sum.inr (v_made_62, v_worth_62, v_set_62, v_pipes_62, v_days_62, w_depths_62, w_rivals_62)) else ((shX1_offer x5_8 x8_62 (x8_62 + ((w_roads (((x5_8 * (8 : Int32)) + a1)).toNatClampNeg) + (a4 * o_42))) v_made_62 v_worth_62 v_set_62 v_pipes_62 v_days_62 w_gains w_worths w_depths_62 w_rivals_62).bind fun o_79 => some (Sum.inl ((x8_62 + (1 : Int32)), o_79.1, o_79.2.1, o_79.2.2.1, o_79.2.2.2.1, o_79.2.2.2.2.1, o_79.2.2.2.2.2.1, o_79.2.2.2.2.2.2))))
noncomputable def shX1_choose_L8 (a1 : Int32) (a2 : Int32) (a3 : Int32) (a4 : Int32) (v_admitted : Int32) (w_gains : Nat → Int64) (w_roads : Nat → Int32) (w_worths : Nat → Int64) (x5_8 : Int32) (v_made_8 : Int32) (v_worth_8 : Int64) (v_set_8 : Int32) (v_pipes_8 : Int32) (v_days_8 : Int32) (w_depths_8 : Nat → Int32) (w_rivals_8 : Nat → Int32) : Option ((Int32 × Int32 × Int64 × Int32 × Int32 × Int32 × (Nat → Int32) × (Nat → Int32)) ⊕ ((Int32 × Int64 × Int32 × Int32 × Int32 × (Nat → Int32) × (Nat → Int32)))) :=
  (if v_admitted < x5_8 then some (Sum.inr (v_made_8, v_worth_8, v_set_8, v_pipes_8, v_days_8, w_depths_8, w_rivals_8)) else ((shX1_isAdmitted x5_8 v_admitted).bind fun o_20 => (if o_20 = 0 then (shX1_choose_k8_88 x5_8 v_made_8 v_worth_8 v_set_8 v_pipes_8 v_days_8 w_depths_8 w_rivals_8) else ((gd ((x5_8 * (8 : Int32)) + a1) 1024).bind fun _ => ((shJ6_bitCount_0f7a4 x5_8).bind fun o_42 => ((lp (fun s : Int32 × Int32 × Int64 × Int32 × Int32 × Int32 × (Nat → Int32) × (Nat → Int32) => shX1_choose_L62 a1 a2 a3 a4 w_gains w_roads w_worths x5_8 o_42 s.1 s.2.1 s.2.2.1 s.2.2.2.1 s.2.2.2.2.1 s.2.2.2.2.2.1 s.2.2.2.2.2.2.1 s.2.2.2.2.2.2.2) ((0 : Int32), v_made_8, v_worth_8, v_set_8, v_pipes_8, v_days_8, w_depths_8, w_rivals_8)).bind (fun p : Int32 × Int64 × Int32 × Int32 × Int32 × (Nat → Int32) × (Nat → Int32) => shX1_choose_k8_88 x5_8 p.1 p.2.1 p.2.2.1 p.2.2.2.1 p.2.2.2.2.1 p.2.2.2.2.2.1 p.2.2.2.2.2.2)))))))
noncomputable def shX1_choose (a1 : Int32) (a2 : Int32) (a3 : Int32) (a4 : Int32) (v_admitted : Int32) (v_made : Int32) (v_worth : Int64) (v_set : Int32) (v_pipes : Int32) (v_days : Int32) (v_stops : Int32) (w_gains : Nat → Int64) (w_roads : Nat → Int32) (w_steps : Nat → Int32) (w_worths : Nat → Int64) (w_depths : Nat → Int32) (w_rivals : Nat → Int32) (w_order : Nat → Int32) : Option (Int32 × Int64 × Int32 × Int32 × Int32 × Int32 × (Nat → Int32) × (Nat → Int32) × (Nat → Int32)) :=
  ((lp (fun s : Int32 × Int32 × Int64 × Int32 × Int32 × Int32 × (Nat → Int32) × (Nat → Int32) => shX1_choose_L8 a1 a2 a3 a4 v_admitted w_gains w_roads w_worths s.1 s.2.1 s.2.2.1 s.2.2.2.1 s.2.2.2.2.1 s.2.2.2.2.2.1 s.2.2.2.2.2.2.1 s.2.2.2.2.2.2.2) ((0 : Int32), (0 : Int32), v_worth, v_set, v_pipes, v_days, w_depths, w_rivals)).bind (fun p : Int32 × Int64 × Int32 × Int32 × Int32 × (Nat → Int32) × (Nat → Int32) => shX1_choose_j_94 a1 w_roads w_steps w_order p.1 p.2.1 p.2.2.1 p.2.2.2.1 p.2.2.2.2.1 p.2.2.2.2.2.1 p.2.2.2.2.2.2))
def wdX1_choose (cI cJ cZ : ClassId) (q_this q_gains q_roads q_steps q_worths q_depths q_rivals q_order : Nat) (v_admitted : Int32) (v_made : Int32) (v_worth : Int64) (v_set : Int32) (v_pipes : Int32) (v_days : Int32) (v_stops : Int32) (w_gains : Nat → Int64) (w_roads : Nat → Int32) (w_steps : Nat → Int32) (w_worths : Nat → Int64) (w_depths : Nat → Int32) (w_rivals : Nat → Int32) (w_order : Nat → Int32) : va_W := [(q_this, .inr (1, [.int v_admitted, .ref q_gains, .ref q_roads, .ref q_steps, .ref q_worths, .int v_made, .long v_worth, .int v_set, .int v_pipes, .int v_days, .int v_stops, .ref q_depths, .ref q_rivals, .ref q_order])), (q_gains, .inl (cJ, 40, .inr (.inl w_gains))), (q_roads, .inl (cI, 1024, .inl w_roads)), (q_steps, .inl (cI, 64, .inl w_steps)), (q_worths, .inl (cJ, 3712, .inr (.inl w_worths))), (q_depths, .inl (cI, 8, .inl w_depths)), (q_rivals, .inl (cI, 8, .inl w_rivals)), (q_order, .inl (cI, 7, .inl w_order))]
abbrev rmX1_choose : Room := { frames := 5, cells := 0, slots := 0, locals := 131 }
theorem inX1_choose_X1 : ∀ w ∈ u_ws RX1 TX1 14, w ∈ wsX1_choose := fun _ h => List.mem_cons_of_mem _ (List.mem_append_right _ h)
theorem lkX1_choose_35 : Cond.fieldLink RX1 35 (TX1 5).1 (TX1 5).2.1 (TX1 5).2.2.1 ∈ wsX1_choose := List.mem_of_getElem? (i := 1) rfl
theorem lkX1_choose_43 : Cond.fieldLink RX1 43 (TX1 7).1 (TX1 7).2.1 (TX1 7).2.2.1 ∈ wsX1_choose := List.mem_of_getElem? (i := 8) rfl
theorem lkX1_choose_52 : Cond.fieldLink RX1 52 (TX1 10).1 (TX1 10).2.1 (TX1 10).2.2.1 ∈ wsX1_choose := List.mem_of_getElem? (i := 9) rfl
theorem lkX1_choose_15 : Cond.fieldLink RX1 15 (TX1 0).1 (TX1 0).2.1 (TX1 0).2.2.1 ∈ wsX1_choose := List.mem_of_getElem? (i := 2) rfl
theorem lkX1_choose_25 : Cond.fieldLink RX1 25 (TX1 2).1 (TX1 2).2.1 (TX1 2).2.2.1 ∈ wsX1_choose := List.mem_of_getElem? (i := 3) rfl
theorem hdX1_choose : yX1_choose.cls = RX1 ∧ yX1_choose.cls ≠ "java/lang/invoke/MethodHandle" ∧ yX1_choose.cls ≠ "java/lang/invoke/VarHandle" ∧ (parseMethodDescriptor yX1_choose.desc).map (fun d => d.parameters.length) = some 4 := by decide +kernel
set_option maxHeartbeats 4000000 in
set_option maxRecDepth 100000 in
theorem ctX1_choose (l : Launch) (D : va_G) (cI cJ cZ : ClassId) (q_this q_gains q_roads q_steps q_worths q_depths q_rivals q_order : Nat) (v_admitted : Int32) (v_made : Int32) (v_worth : Int64) (v_set : Int32) (v_pipes : Int32) (v_days : Int32) (v_stops : Int32) (w_gains : Nat → Int64) (w_roads : Nat → Int32) (w_steps : Nat → Int32) (w_worths : Nat → Int64) (w_depths : Nat → Int32) (w_rivals : Nat → Int32) (w_order : Nat → Int32) (a1 : Int32) (a2 : Int32) (a3 : Int32) (a4 : Int32) (o : Int32 × Int64 × Int32 × Int32 × Int32 × Int32 × (Nat → Int32) × (Nat → Int32) × (Nat → Int32)) (hsh : shX1_choose a1 a2 a3 a4 v_admitted v_made v_worth v_set v_pipes v_days v_stops w_gains w_roads w_steps w_worths w_depths w_rivals w_order = some o) : CtV l yX1_choose wsX1_choose rmX1_choose D (tys3 cI cJ cZ) noE (wdX1_choose cI cJ cZ q_this q_gains q_roads q_steps q_worths q_depths q_rivals q_order v_admitted v_made v_worth v_set v_pipes v_days v_stops w_gains w_roads w_steps w_worths w_depths w_rivals w_order) [.ref q_this, .int a1, .int a2, .int a3, .int a4]  (wdX1_choose cI cJ cZ q_this q_gains q_roads q_steps q_worths q_depths q_rivals q_order v_admitted o.1 o.2.1 o.2.2.1 o.2.2.2.1 o.2.2.2.2.1 o.2.2.2.2.2.1 w_gains w_roads w_steps w_worths o.2.2.2.2.2.2.1 o.2.2.2.2.2.2.2.1 o.2.2.2.2.2.2.2.2) := by
  refine ctV plX1 rfl (Nat.le_of_ble_eq_true rfl) ?_
  intro p e s m below meth c A Q S hK hA hE hret H locs hP hD hS ls hl
  replace S : CallFix p m c cX1_choose 9 s _ wsX1_choose RX1 := S
  generalize ([.ref q_this, .int a1, .int a2, .int a3, .int a4] : List Value).toArray = args at S hret ⊢
  obtain ⟨hx, hb, hml, hown, hts⟩ := id S
  replace hl : lv_has ls 9 [(0, .ref q_this), (1, .int a1), (2, .int a2), (3, .int a3), (4, .int a4)] := hl
  unfold shX1_choose at hsh
  have Jj_94 : ∀ (v_made_j_94 : Int32) (v_worth_j_94 : Int64) (v_set_j_94 : Int32) (v_pipes_j_94 : Int32) (v_days_j_94 : Int32) (w_depths_j_94 : Nat → Int32) (w_rivals_j_94 : Nat → Int32) (H : Heap) (locs : List Loc), va_P D vwCl (wdX1_choose cI cJ cZ q_this q_gains q_roads q_steps q_worths q_depths q_rivals q_order v_admitted v_made_j_94 v_worth_j_94 v_set_j_94 v_pipes_j_94 v_days_j_94 v_stops w_gains w_roads w_steps w_worths w_depths_j_94 w_rivals_j_94 w_order) H → va_D A (wdX1_choose cI cJ cZ q_this q_gains q_roads q_steps q_worths q_depths q_rivals q_order v_admitted v_made_j_94 v_worth_j_94 v_set_j_94 v_pipes_j_94 v_days_j_94 v_stops w_gains w_roads w_steps w_worths w_depths_j_94 w_rivals_j_94 w_order) → va_S A s.heap H locs → ∀ ls : Array Slot, lv_has ls 9 [(0, .ref q_this), (1, .int a1)] → shX1_choose_j_94 a1 w_roads w_steps w_order v_made_j_94 v_worth_j_94 v_set_j_94 v_pipes_j_94 v_days_j_94 w_depths_j_94 w_rivals_j_94 = some o → W p l e rmX1_choose s m args below meth c H locs 0 0 Q (F0 m 94 ls []) := by
    intro v_made_j_94 v_worth_j_94 v_set_j_94 v_pipes_j_94 v_days_j_94 w_depths_j_94 w_rivals_j_94 H locs hP hD hS ls hl hsh
    unfold shX1_choose_j_94 at hsh
    refine lv_aload_n hx hb dX1_choose_94 rfl (lv_at hl 0 rfl) ?_
    refine lv_aload_n hx hb dX1_choose_95 rfl (lv_at hl 0 rfl) ?_
    refine kget (ci := 1) S hK hP rfl inX1_choose_X1 0 rfl 7 (by decide) lkX1_choose_43 rfl dX1_choose_96 ?_
    obtain ⟨o_99, he, hsh⟩ := bd hsh
    refine kSi S hK hA (ctJ6_bitCount_0f7a4 l D cI cJ cZ v_set_j_94 o_99 he) noE_cl (va_cwS 1 hts gX1_choose_J6_bitCount_0f7a4 rfl rfl rfl hdJ6_bitCount_0f7a4 ⟨Nat.le_of_ble_eq_true rfl, Nat.le_of_ble_eq_true rfl⟩) [] [0, 1, 2, 3, 4, 5, 6, 7] [0, 1, 2, 3, 4, 5, 6, 7] (ws' := (wdX1_choose cI cJ cZ q_this q_gains q_roads q_steps q_worths q_depths q_rivals q_order v_admitted v_made_j_94 v_worth_j_94 v_set_j_94 v_pipes_j_94 v_days_j_94 v_stops w_gains w_roads w_steps w_worths w_depths_j_94 w_rivals_j_94 w_order)) ⟨rfl, rfl, rfl, rfl, rfl, rfl, rfl⟩ trivial rfl hl.1 rfl (Nat.le_of_ble_eq_true rfl) dX1_choose_99 hP hD hS (fun H locs hP hD hS => ?_)
    refine kput (ci := 1) S hK hP hD hS rfl inX1_choose_X1 tyX1_ok nmX1 0 rfl 10 (by decide) lkX1_choose_52 rfl rfl rfl (Nat.le_of_ble_eq_true rfl) (ws' := (wdX1_choose cI cJ cZ q_this q_gains q_roads q_steps q_worths q_depths q_rivals q_order v_admitted v_made_j_94 v_worth_j_94 v_set_j_94 v_pipes_j_94 v_days_j_94 o_99 w_gains w_roads w_steps w_worths w_depths_j_94 w_rivals_j_94 w_order)) rfl dX1_choose_102 (fun H locs hP hD hS => ?_)
    refine lv_aload_n hx hb dX1_choose_105 rfl (lv_at hl 0 rfl) ?_
    refine lv_iload_n hx hb dX1_choose_106 rfl (lv_at hl 1 rfl) ?_
    obtain ⟨o_107, he, hsh⟩ := bd hsh
    refine kVv (ci := 1) S hK hA (ctX1_layOrder l D cI cJ cZ q_this q_gains q_roads q_steps q_worths q_depths q_rivals q_order v_admitted v_made_j_94 v_worth_j_94 v_set_j_94 v_pipes_j_94 v_days_j_94 o_99 w_roads w_steps w_order a1 o_107 he) noE_cl (cwV 1 hts gX1_choose_X1_layOrder rfl rfl rfl hdX1_layOrder ⟨Nat.le_of_ble_eq_true rfl, Nat.le_of_ble_eq_true rfl⟩) rfl 0 rfl [0, 2, 3, 7] [1, 4, 5, 6] [4, 0, 5, 6, 1, 2, 3, 7] (ws' := (wdX1_choose cI cJ cZ q_this q_gains q_roads q_steps q_worths q_depths q_rivals q_order v_admitted v_made_j_94 v_worth_j_94 v_set_j_94 v_pipes_j_94 v_days_j_94 o_99 w_gains w_roads w_steps w_worths w_depths_j_94 w_rivals_j_94 o_107)) ⟨rfl, rfl, rfl, rfl, rfl, rfl, rfl⟩ trivial rfl hl.1 rfl (Nat.le_of_ble_eq_true rfl) dX1_choose_107 hP hD hS (fun H locs hP hD hS => ?_)
    have ho := Option.some.inj hsh
    rw [← ho] at hret
    exact hret _ _ _ _ dX1_choose_110 hP hD hS
  refine lv_aload_n hx hb dX1_choose_0 rfl (lv_at hl 0 rfl) ?_
  refine lv_iconst (v := (0 : Int32)) hx hb dX1_choose_1 (by decide) ?_
  refine kput (ci := 1) S hK hP hD hS rfl inX1_choose_X1 tyX1_ok nmX1 0 rfl 5 (by decide) lkX1_choose_35 rfl rfl rfl (Nat.le_of_ble_eq_true rfl) (ws' := (wdX1_choose cI cJ cZ q_this q_gains q_roads q_steps q_worths q_depths q_rivals q_order v_admitted (0 : Int32) v_worth v_set v_pipes v_days v_stops w_gains w_roads w_steps w_worths w_depths w_rivals w_order)) rfl dX1_choose_2 (fun H locs hP hD hS => ?_)
  refine lv_iconst (v := (0 : Int32)) hx hb dX1_choose_5 (by decide) ?_
  refine lv_istore (lv' := [(5, .int (0 : Int32)), (0, .ref q_this), (1, .int a1), (2, .int a2), (3, .int a3), (4, .int a4)]) hx hb dX1_choose_6 hl (by decide) rfl (fun ls hl => ?_)
  obtain ⟨r_8, hl_8, hk_8⟩ := bd hsh
  obtain ⟨n_8, hn_8⟩ := lp_iff.mp hl_8
  have L_8 : ∀ (n : Nat) (x5_8 : Int32) (v_made_8 : Int32) (v_worth_8 : Int64) (v_set_8 : Int32) (v_pipes_8 : Int32) (v_days_8 : Int32) (w_depths_8 : Nat → Int32) (w_rivals_8 : Nat → Int32) (H : Heap) (locs : List Loc), va_P D vwCl (wdX1_choose cI cJ cZ q_this q_gains q_roads q_steps q_worths q_depths q_rivals q_order v_admitted v_made_8 v_worth_8 v_set_8 v_pipes_8 v_days_8 v_stops w_gains w_roads w_steps w_worths w_depths_8 w_rivals_8 w_order) H → va_D A (wdX1_choose cI cJ cZ q_this q_gains q_roads q_steps q_worths q_depths q_rivals q_order v_admitted v_made_8 v_worth_8 v_set_8 v_pipes_8 v_days_8 v_stops w_gains w_roads w_steps w_worths w_depths_8 w_rivals_8 w_order) → va_S A s.heap H locs → ∀ ls : Array Slot, lv_has ls 9 [(0, .ref q_this), (1, .int a1), (2, .int a2), (3, .int a3), (4, .int a4), (5, .int x5_8)] → it (fun s : Int32 × Int32 × Int64 × Int32 × Int32 × Int32 × (Nat → Int32) × (Nat → Int32) => shX1_choose_L8 a1 a2 a3 a4 v_admitted w_gains w_roads w_worths s.1 s.2.1 s.2.2.1 s.2.2.2.1 s.2.2.2.2.1 s.2.2.2.2.2.1 s.2.2.2.2.2.2.1 s.2.2.2.2.2.2.2) n (x5_8, v_made_8, v_worth_8, v_set_8, v_pipes_8, v_days_8, w_depths_8, w_rivals_8) = some r_8 → W p l e rmX1_choose s m args below meth c H locs 0 0 Q (F0 m 8 ls []) := by
    intro n
    induction n with
    | zero => exact fun _ _ _ _ _ _ _ _ _ _ _ _ _ _ _ hi => it_0 hi
    | succ n ih_8 =>
      intro x5_8 v_made_8 v_worth_8 v_set_8 v_pipes_8 v_days_8 w_depths_8 w_rivals_8 H locs hP hD hS ls hl hi
      obtain ⟨b_8, hsh, hB1_8, hB2_8⟩ := it_b hi
      replace hsh : shX1_choose_L8 a1 a2 a3 a4 v_admitted w_gains w_roads w_worths x5_8 v_made_8 v_worth_8 v_set_8 v_pipes_8 v_days_8 w_depths_8 w_rivals_8 = some b_8 := hsh
      unfold shX1_choose_L8 at hsh
      have Jk8_88 : ∀ (v_made_k8_88 : Int32) (v_worth_k8_88 : Int64) (v_set_k8_88 : Int32) (v_pipes_k8_88 : Int32) (v_days_k8_88 : Int32) (w_depths_k8_88 : Nat → Int32) (w_rivals_k8_88 : Nat → Int32) (H : Heap) (locs : List Loc), va_P D vwCl (wdX1_choose cI cJ cZ q_this q_gains q_roads q_steps q_worths q_depths q_rivals q_order v_admitted v_made_k8_88 v_worth_k8_88 v_set_k8_88 v_pipes_k8_88 v_days_k8_88 v_stops w_gains w_roads w_steps w_worths w_depths_k8_88 w_rivals_k8_88 w_order) H → va_D A (wdX1_choose cI cJ cZ q_this q_gains q_roads q_steps q_worths q_depths q_rivals q_order v_admitted v_made_k8_88 v_worth_k8_88 v_set_k8_88 v_pipes_k8_88 v_days_k8_88 v_stops w_gains w_roads w_steps w_worths w_depths_k8_88 w_rivals_k8_88 w_order) → va_S A s.heap H locs → ∀ ls : Array Slot, lv_has ls 9 [(0, .ref q_this), (1, .int a1), (2, .int a2), (3, .int a3), (4, .int a4), (5, .int x5_8)] → shX1_choose_k8_88 x5_8 v_made_k8_88 v_worth_k8_88 v_set_k8_88 v_pipes_k8_88 v_days_k8_88 w_depths_k8_88 w_rivals_k8_88 = some b_8 → W p l e rmX1_choose s m args below meth c H locs 0 0 Q (F0 m 88 ls []) := by
        intro v_made_k8_88 v_worth_k8_88 v_set_k8_88 v_pipes_k8_88 v_days_k8_88 w_depths_k8_88 w_rivals_k8_88 H locs hP hD hS ls hl hsh
        unfold shX1_choose_k8_88 at hsh
        refine lv_iinc (v := (x5_8 + (1 : Int32))) (lv' := [(5, .int (x5_8 + (1 : Int32))), (0, .ref q_this), (1, .int a1), (2, .int a2), (3, .int a3), (4, .int a4)]) hx hb dX1_choose_88 hl (k := 5) rfl (congrArg (fun z : Int32 => x5_8 + z) (by decide)) (by decide) rfl (fun ls hl => ?_)
        refine lv_goto (tgt := 8) hx hb dX1_choose_91 (by decide) ?_
        exact ih_8 (x5_8 + (1 : Int32)) v_made_k8_88 v_worth_k8_88 v_set_k8_88 v_pipes_k8_88 v_days_k8_88 w_depths_k8_88 w_rivals_k8_88 H locs hP hD hS ls (lv_sub hl [1, 2, 3, 4, 5, 0] rfl) (hB1_8 _ hsh)
      refine lv_iload hx hb dX1_choose_8 (lv_at hl 5 rfl) ?_
      refine lv_aload_n hx hb dX1_choose_10 rfl (lv_at hl 0 rfl) ?_
      refine kget (ci := 1) S hK hP rfl inX1_choose_X1 0 rfl 0 (by decide) lkX1_choose_15 rfl dX1_choose_11 ?_
      refine lv_icmp_gt (tgt := 94) hx hb dX1_choose_14 (by decide) (fun c1 => ?_) (fun c1 => ?_)
      · skip
        have hsh := ite_t hsh c1
        have he := hB2_8 _ hsh
        rw [← he] at hk_8
        exact Jj_94 v_made_8 v_worth_8 v_set_8 v_pipes_8 v_days_8 w_depths_8 w_rivals_8 H locs hP hD hS ls (lv_sub hl [0, 1] rfl) hk_8
      · skip
        have hsh := ite_f hsh c1
        refine lv_aload_n hx hb dX1_choose_17 rfl (lv_at hl 0 rfl) ?_
        refine lv_iload hx hb dX1_choose_18 (lv_at hl 5 rfl) ?_
        obtain ⟨o_20, he, hsh⟩ := bd hsh
        refine kVi (ci := 1) S hK hA (ctX1_isAdmitted l D cI cJ cZ q_this q_gains q_roads q_steps q_worths q_depths q_rivals q_order v_admitted v_made_8 v_worth_8 v_set_8 v_pipes_8 v_days_8 v_stops x5_8 o_20 he) noE_cl (cwV 1 hts gX1_choose_X1_isAdmitted rfl rfl rfl hdX1_isAdmitted ⟨Nat.le_of_ble_eq_true rfl, Nat.le_of_ble_eq_true rfl⟩) rfl 0 rfl [0] [1, 2, 3, 4, 5, 6, 7] [7, 0, 1, 2, 3, 4, 5, 6] (ws' := (wdX1_choose cI cJ cZ q_this q_gains q_roads q_steps q_worths q_depths q_rivals q_order v_admitted v_made_8 v_worth_8 v_set_8 v_pipes_8 v_days_8 v_stops w_gains w_roads w_steps w_worths w_depths_8 w_rivals_8 w_order)) ⟨rfl, rfl, rfl, rfl, rfl, rfl, rfl⟩ trivial rfl hl.1 rfl (Nat.le_of_ble_eq_true rfl) dX1_choose_20 hP hD hS (fun H locs hP hD hS => ?_)
        refine lv_if_eq (tgt := 88) hx hb dX1_choose_23 (by decide) (fun c1 => ?_) (fun c1 => ?_)
        · skip
          have hsh := ite_t hsh c1
          exact Jk8_88 v_made_8 v_worth_8 v_set_8 v_pipes_8 v_days_8 w_depths_8 w_rivals_8 H locs hP hD hS ls (lv_sub hl [0, 1, 2, 3, 4, 5] rfl) hsh
        · skip
          have hsh := ite_f hsh c1
          refine lv_aload_n hx hb dX1_choose_26 rfl (lv_at hl 0 rfl) ?_
          refine kget (ci := 1) S hK hP rfl inX1_choose_X1 0 rfl 2 (by decide) lkX1_choose_25 rfl dX1_choose_27 ?_
          refine lv_iload hx hb dX1_choose_30 (lv_at hl 5 rfl) ?_
          refine lv_bipush (v := (8 : Int32)) hx hb dX1_choose_32 (by decide) ?_
          refine lv_imul hx hb dX1_choose_34 ?_
          refine lv_iload_n hx hb dX1_choose_35 rfl (lv_at hl 1 rfl) ?_
          refine lv_iadd hx hb dX1_choose_36 ?_
          obtain ⟨_, hg, hsh⟩ := bd hsh
          refine kial S hK hP 2 0 rfl rfl (gd_in hg) dX1_choose_37 ?_
          refine lv_iload hx hb dX1_choose_38 (lv_at hl 4 rfl) ?_
          refine lv_iload hx hb dX1_choose_40 (lv_at hl 5 rfl) ?_
          obtain ⟨o_42, he, hsh⟩ := bd hsh
          refine kSi S hK hA (ctJ6_bitCount_0f7a4 l D cI cJ cZ x5_8 o_42 he) noE_cl (va_cwS 1 hts gX1_choose_J6_bitCount_0f7a4 rfl rfl rfl hdJ6_bitCount_0f7a4 ⟨Nat.le_of_ble_eq_true rfl, Nat.le_of_ble_eq_true rfl⟩) [] [0, 1, 2, 3, 4, 5, 6, 7] [0, 1, 2, 3, 4, 5, 6, 7] (ws' := (wdX1_choose cI cJ cZ q_this q_gains q_roads q_steps q_worths q_depths q_rivals q_order v_admitted v_made_8 v_worth_8 v_set_8 v_pipes_8 v_days_8 v_stops w_gains w_roads w_steps w_worths w_depths_8 w_rivals_8 w_order)) ⟨rfl, rfl, rfl, rfl, rfl, rfl, rfl⟩ trivial rfl hl.1 rfl (Nat.le_of_ble_eq_true rfl) dX1_choose_42 hP hD hS (fun H locs hP hD hS => ?_)
          refine lv_imul hx hb dX1_choose_45 ?_
          refine lv_iadd hx hb dX1_choose_46 ?_
          refine lv_istore (lv' := [(6, .int ((w_roads (((x5_8 * (8 : Int32)) + a1)).toNatClampNeg) + (a4 * o_42))), (0, .ref q_this), (1, .int a1), (2, .int a2), (3, .int a3), (4, .int a4), (5, .int x5_8)]) hx hb dX1_choose_47 hl (by decide) rfl (fun ls hl => ?_)
          refine lv_iload_n hx hb dX1_choose_49 rfl (lv_at hl 3 rfl) ?_
          refine lv_iload_n hx hb dX1_choose_50 rfl (lv_at hl 4 rfl) ?_
          refine lv_iload hx hb dX1_choose_51 (lv_at hl 0 rfl) ?_
          refine lv_isub hx hb dX1_choose_53 ?_
          refine va_mmin hx hb (S.2.2.1.trans hl.1.symm) hown (hts _ (List.mem_of_getElem? (i := 4) rfl)) (hts _ (List.mem_of_getElem? (i := 5) rfl)) (hts _ (List.mem_of_getElem? (i := 6) rfl)) (hts _ (List.mem_of_getElem? (i := 7) rfl)) (Nat.le_of_ble_eq_true rfl) (Nat.le_of_ble_eq_true rfl) (Nat.le_of_ble_eq_true rfl) (Nat.le_of_ble_eq_true rfl) dX1_choose_54 ?_
          refine lv_istore (lv' := [(7, .int (if (a3 - ((w_roads (((x5_8 * (8 : Int32)) + a1)).toNatClampNeg) + (a4 * o_42))) < a2 then (a3 - ((w_roads (((x5_8 * (8 : Int32)) + a1)).toNatClampNeg) + (a4 * o_42))) else a2)), (6, .int ((w_roads (((x5_8 * (8 : Int32)) + a1)).toNatClampNeg) + (a4 * o_42))), (0, .ref q_this), (1, .int a1), (2, .int a2), (3, .int a3), (4, .int a4), (5, .int x5_8)]) hx hb dX1_choose_57 hl (by decide) rfl (fun ls hl => ?_)
          refine lv_iconst (v := (0 : Int32)) hx hb dX1_choose_59 (by decide) ?_
          refine lv_istore (lv' := [(8, .int (0 : Int32)), (7, .int (if (a3 - ((w_roads (((x5_8 * (8 : Int32)) + a1)).toNatClampNeg) + (a4 * o_42))) < a2 then (a3 - ((w_roads (((x5_8 * (8 : Int32)) + a1)).toNatClampNeg) + (a4 * o_42))) else a2)), (6, .int ((w_roads (((x5_8 * (8 : Int32)) + a1)).toNatClampNeg) + (a4 * o_42))), (0, .ref q_this), (1, .int a1), (2, .int a2), (3, .int a3), (4, .int a4), (5, .int x5_8)]) hx hb dX1_choose_60 hl (by decide) rfl (fun ls hl => ?_)
          obtain ⟨r_62, hl_62, hk_62⟩ := bd hsh
          obtain ⟨n_62, hn_62⟩ := lp_iff.mp hl_62
          have L_62 : ∀ (n : Nat) (x8_62 : Int32) (v_made_62 : Int32) (v_worth_62 : Int64) (v_set_62 : Int32) (v_pipes_62 : Int32) (v_days_62 : Int32) (w_depths_62 : Nat → Int32) (w_rivals_62 : Nat → Int32) (H : Heap) (locs : List Loc), va_P D vwCl (wdX1_choose cI cJ cZ q_this q_gains q_roads q_steps q_worths q_depths q_rivals q_order v_admitted v_made_62 v_worth_62 v_set_62 v_pipes_62 v_days_62 v_stops w_gains w_roads w_steps w_worths w_depths_62 w_rivals_62 w_order) H → va_D A (wdX1_choose cI cJ cZ q_this q_gains q_roads q_steps q_worths q_depths q_rivals q_order v_admitted v_made_62 v_worth_62 v_set_62 v_pipes_62 v_days_62 v_stops w_gains w_roads w_steps w_worths w_depths_62 w_rivals_62 w_order) → va_S A s.heap H locs → ∀ ls : Array Slot, lv_has ls 9 [(0, .ref q_this), (1, .int a1), (2, .int a2), (3, .int a3), (4, .int a4), (5, .int x5_8), (6, .int ((w_roads (((x5_8 * (8 : Int32)) + a1)).toNatClampNeg) + (a4 * o_42))), (7, .int (if (a3 - ((w_roads (((x5_8 * (8 : Int32)) + a1)).toNatClampNeg) + (a4 * o_42))) < a2 then (a3 - ((w_roads (((x5_8 * (8 : Int32)) + a1)).toNatClampNeg) + (a4 * o_42))) else a2)), (8, .int x8_62)] → it (fun s : Int32 × Int32 × Int64 × Int32 × Int32 × Int32 × (Nat → Int32) × (Nat → Int32) => shX1_choose_L62 a1 a2 a3 a4 w_gains w_roads w_worths x5_8 o_42 s.1 s.2.1 s.2.2.1 s.2.2.2.1 s.2.2.2.2.1 s.2.2.2.2.2.1 s.2.2.2.2.2.2.1 s.2.2.2.2.2.2.2) n (x8_62, v_made_62, v_worth_62, v_set_62, v_pipes_62, v_days_62, w_depths_62, w_rivals_62) = some r_62 → W p l e rmX1_choose s m args below meth c H locs 0 0 Q (F0 m 62 ls []) := by
            intro n
            induction n with
            | zero => exact fun _ _ _ _ _ _ _ _ _ _ _ _ _ _ _ hi => it_0 hi
            | succ n ih_62 =>
              intro x8_62 v_made_62 v_worth_62 v_set_62 v_pipes_62 v_days_62 w_depths_62 w_rivals_62 H locs hP hD hS ls hl hi
              obtain ⟨b_62, hsh, hB1_62, hB2_62⟩ := it_b hi
              replace hsh : shX1_choose_L62 a1 a2 a3 a4 w_gains w_roads w_worths x5_8 o_42 x8_62 v_made_62 v_worth_62 v_set_62 v_pipes_62 v_days_62 w_depths_62 w_rivals_62 = some b_62 := hsh
              unfold shX1_choose_L62 at hsh
              refine lv_iload hx hb dX1_choose_62 (lv_at hl 8 rfl) ?_
              refine lv_iload hx hb dX1_choose_64 (lv_at hl 7 rfl) ?_
              refine lv_icmp_gt (tgt := 88) hx hb dX1_choose_66 (by decide) (fun c1 => ?_) (fun c1 => ?_)
              · skip
                have hsh := ite_t hsh c1
                have he := hB2_62 _ hsh
                rw [← he] at hk_62
                exact Jk8_88 v_made_62 v_worth_62 v_set_62 v_pipes_62 v_days_62 w_depths_62 w_rivals_62 H locs hP hD hS ls (lv_sub hl [0, 1, 2, 3, 4, 5] rfl) hk_62
              · skip
                have hsh := ite_f hsh c1
                refine lv_aload_n hx hb dX1_choose_69 rfl (lv_at hl 0 rfl) ?_
                refine lv_iload hx hb dX1_choose_70 (lv_at hl 5 rfl) ?_
                refine lv_iload hx hb dX1_choose_72 (lv_at hl 8 rfl) ?_
                refine lv_iload hx hb dX1_choose_74 (lv_at hl 8 rfl) ?_
                refine lv_iload hx hb dX1_choose_76 (lv_at hl 6 rfl) ?_
                refine lv_iadd hx hb dX1_choose_78 ?_
                obtain ⟨o_79, he, hsh⟩ := bd hsh
                refine kVv (ci := 1) S hK hA (ctX1_offer l D cI cJ cZ q_this q_gains q_roads q_steps q_worths q_depths q_rivals q_order v_admitted v_made_62 v_worth_62 v_set_62 v_pipes_62 v_days_62 v_stops w_gains w_worths w_depths_62 w_rivals_62 x5_8 x8_62 (x8_62 + ((w_roads (((x5_8 * (8 : Int32)) + a1)).toNatClampNeg) + (a4 * o_42))) o_79 he) noE_cl (cwV 3 hts gX1_choose_X1_offer rfl rfl rfl hdX1_offer ⟨Nat.le_of_ble_eq_true rfl, Nat.le_of_ble_eq_true rfl⟩) rfl 0 rfl [0, 1, 4, 5, 6] [2, 3, 7] [3, 4, 0, 1, 5, 6, 7, 2] (ws' := (wdX1_choose cI cJ cZ q_this q_gains q_roads q_steps q_worths q_depths q_rivals q_order v_admitted o_79.1 o_79.2.1 o_79.2.2.1 o_79.2.2.2.1 o_79.2.2.2.2.1 v_stops w_gains w_roads w_steps w_worths o_79.2.2.2.2.2.1 o_79.2.2.2.2.2.2 w_order)) ⟨rfl, rfl, rfl, rfl, rfl, rfl, rfl⟩ trivial rfl hl.1 rfl (Nat.le_of_ble_eq_true rfl) dX1_choose_79 hP hD hS (fun H locs hP hD hS => ?_)
                refine lv_iinc (v := (x8_62 + (1 : Int32))) (lv' := [(8, .int (x8_62 + (1 : Int32))), (0, .ref q_this), (1, .int a1), (2, .int a2), (3, .int a3), (4, .int a4), (5, .int x5_8), (6, .int ((w_roads (((x5_8 * (8 : Int32)) + a1)).toNatClampNeg) + (a4 * o_42))), (7, .int (if (a3 - ((w_roads (((x5_8 * (8 : Int32)) + a1)).toNatClampNeg) + (a4 * o_42))) < a2 then (a3 - ((w_roads (((x5_8 * (8 : Int32)) + a1)).toNatClampNeg) + (a4 * o_42))) else a2))]) hx hb dX1_choose_82 hl (k := 8) rfl (congrArg (fun z : Int32 => x8_62 + z) (by decide)) (by decide) rfl (fun ls hl => ?_)
                refine lv_goto (tgt := 62) hx hb dX1_choose_85 (by decide) ?_
                exact ih_62 (x8_62 + (1 : Int32)) o_79.1 o_79.2.1 o_79.2.2.1 o_79.2.2.2.1 o_79.2.2.2.2.1 o_79.2.2.2.2.2.1 o_79.2.2.2.2.2.2 H locs hP hD hS ls (lv_sub hl [1, 2, 3, 4, 5, 6, 7, 8, 0] rfl) (hB1_62 _ hsh)
          exact L_62 n_62 (0 : Int32) v_made_8 v_worth_8 v_set_8 v_pipes_8 v_days_8 w_depths_8 w_rivals_8 H locs hP hD hS ls (lv_sub hl [3, 4, 5, 6, 7, 8, 2, 1, 0] rfl) hn_62
  exact L_8 n_8 (0 : Int32) (0 : Int32) v_worth v_set v_pipes v_days w_depths w_rivals H locs hP hD hS ls (lv_sub hl [1, 2, 3, 4, 5, 0] rfl) hn_8
