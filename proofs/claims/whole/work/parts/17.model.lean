/-! DryWellsModel.thrown -/
noncomputable def shX7_thrown (v_thrown : Int32) : Option (Int32) :=
  some v_thrown
def wdX7_thrown (cI cJ cZ : ClassId) (q_this q_tape q_prior q_pipesIn q_pipe q_met q_chance q_rock q_people q_bad q_well q_ends q_runs q_way q_words q_told q_weight q_days q_depth q_bestDepth q_hopes q_planOf q_planDepth : Nat) (v_tapeSize : Int32) (v_thrown : Int32) (v_salt : Int32) (v_dry : Int32) (v_rest : Int32) (v_fault : Int32) (v_faultPlace : Int32) (v_rocks : Int32) (v_villages : Int32) (v_day : Int32) (v_at : Int32) (v_allPipes : Int32) (v_end : Int32) (v_next : Int32) (v_kind : Int32) (v_which : Int32) (v_place : Int32) (v_isPlan : Int32) (v_planMany : Int32) (v_planPipes : Int32) (v_planDays : Int32) : va_W := [(q_this, .inr (7, [.ref q_tape, .int v_tapeSize, .int v_thrown, .int v_salt, .int v_dry, .int v_rest, .int v_fault, .int v_faultPlace, .int v_rocks, .ref q_prior, .ref q_pipesIn, .ref q_pipe, .ref q_met, .ref q_chance, .int v_villages, .ref q_rock, .ref q_people, .ref q_bad, .ref q_well, .ref q_ends, .ref q_runs, .ref q_way, .int v_day, .int v_at, .int v_allPipes, .ref q_words, .int v_end, .int v_next, .int v_kind, .int v_which, .int v_place, .ref q_told, .ref q_weight, .ref q_days, .ref q_depth, .ref q_bestDepth, .ref q_hopes, .int v_isPlan, .int v_planMany, .int v_planPipes, .int v_planDays, .ref q_planOf, .ref q_planDepth]))]
abbrev rmX7_thrown : Room := { frames := 0, cells := 0, slots := 0, locals := 0 }
theorem inX7_thrown_X7 : ∀ w ∈ u_ws RX7 TX7 43, w ∈ wsX7_thrown := fun _ h => List.mem_cons_of_mem _ (List.mem_append_right _ h)
theorem lkX7_thrown_88 : Cond.fieldLink RX7 88 (TX7 2).1 (TX7 2).2.1 (TX7 2).2.2.1 ∈ wsX7_thrown := List.mem_of_getElem? (i := 1) rfl
theorem hdX7_thrown : yX7_thrown.cls = RX7 ∧ yX7_thrown.cls ≠ "java/lang/invoke/MethodHandle" ∧ yX7_thrown.cls ≠ "java/lang/invoke/VarHandle" ∧ (parseMethodDescriptor yX7_thrown.desc).map (fun d => d.parameters.length) = some 0 := by decide +kernel
set_option maxHeartbeats 4000000 in
set_option maxRecDepth 100000 in
theorem ctX7_thrown (l : Launch) (D : va_G) (cI cJ cZ : ClassId) (q_this q_tape q_prior q_pipesIn q_pipe q_met q_chance q_rock q_people q_bad q_well q_ends q_runs q_way q_words q_told q_weight q_days q_depth q_bestDepth q_hopes q_planOf q_planDepth : Nat) (v_tapeSize : Int32) (v_thrown : Int32) (v_salt : Int32) (v_dry : Int32) (v_rest : Int32) (v_fault : Int32) (v_faultPlace : Int32) (v_rocks : Int32) (v_villages : Int32) (v_day : Int32) (v_at : Int32) (v_allPipes : Int32) (v_end : Int32) (v_next : Int32) (v_kind : Int32) (v_which : Int32) (v_place : Int32) (v_isPlan : Int32) (v_planMany : Int32) (v_planPipes : Int32) (v_planDays : Int32)  (o : Int32) (hsh : shX7_thrown v_thrown = some o) : CtI l yX7_thrown wsX7_thrown rmX7_thrown D (tys3 cI cJ cZ) noE (wdX7_thrown cI cJ cZ q_this q_tape q_prior q_pipesIn q_pipe q_met q_chance q_rock q_people q_bad q_well q_ends q_runs q_way q_words q_told q_weight q_days q_depth q_bestDepth q_hopes q_planOf q_planDepth v_tapeSize v_thrown v_salt v_dry v_rest v_fault v_faultPlace v_rocks v_villages v_day v_at v_allPipes v_end v_next v_kind v_which v_place v_isPlan v_planMany v_planPipes v_planDays) [.ref q_this] o (wdX7_thrown cI cJ cZ q_this q_tape q_prior q_pipesIn q_pipe q_met q_chance q_rock q_people q_bad q_well q_ends q_runs q_way q_words q_told q_weight q_days q_depth q_bestDepth q_hopes q_planOf q_planDepth v_tapeSize v_thrown v_salt v_dry v_rest v_fault v_faultPlace v_rocks v_villages v_day v_at v_allPipes v_end v_next v_kind v_which v_place v_isPlan v_planMany v_planPipes v_planDays) := by
  refine ctI plX7 rfl (Nat.le_of_ble_eq_true rfl) ?_
  intro p e s m below meth c A Q S hK hA hE hret H locs hP hD hS ls hl
  replace S : CallFix p m c cX7_thrown 1 s _ wsX7_thrown RX7 := S
  generalize ([.ref q_this] : List Value).toArray = args at S hret ⊢
  obtain ⟨hx, hb, hml, hown, hts⟩ := id S
  replace hl : lv_has ls 1 [(0, .ref q_this)] := hl
  unfold shX7_thrown at hsh
  refine lv_aload_n hx hb dX7_thrown_0 rfl (lv_at hl 0 rfl) ?_
  refine kget (ci := 7) S hK hP rfl inX7_thrown_X7 0 rfl 2 (by decide) lkX7_thrown_88 rfl dX7_thrown_1 ?_
  have ho := Option.some.inj hsh
  rw [← ho] at hret
  exact hret _ _ _ _ dX7_thrown_4 hP hD hS

/-! DryWellsModel.feed -/
noncomputable def shX7_feed_j_113 (v_tapeSize : Int32) (v_thrown_j_113 : Int32) (w_tape_j_113 : Nat → Int32) : Option (Int32 × Int32 × Int32 × (Nat → Int32)) :=
  some ((v_tapeSize + (20 : Int32)), (v_tapeSize + (20 : Int32)), v_thrown_j_113, w_tape_j_113)
noncomputable def shX7_feed_k23_76 (v_tapeSize : Int32) (x6_23 : Int32) (w_tape_23 : Nat → Int32) (s0_k23_76 : Int32) : Option ((Int32 × (Nat → Int32)) ⊕ (((Nat → Int32)))) :=
  ((gd (v_tapeSize + x6_23) 200).bind fun _ => some (Sum.inl ((x6_23 + (1 : Int32)), (upd w_tape_23 ((v_tapeSize + x6_23)).toNatClampNeg ((s0_k23_76 >>> (((24 : Int32) - ((8 : Int32) * (x6_23 - x6_23 / (4 : Int32) * (4 : Int32)))) &&& 31)) &&& (255 : Int32))))))
noncomputable def shX7_feed_L23 (a1 : Int32) (a2 : Int32) (a3 : Int32) (a4 : Int32) (a5 : Int32) (v_tapeSize : Int32) (x6_23 : Int32) (w_tape_23 : Nat → Int32) : Option ((Int32 × (Nat → Int32)) ⊕ (((Nat → Int32)))) :=
  (if (20 : Int32) ≤ x6_23 then some (Sum.inr w_tape_23) else (if (4 : Int32) ≤ x6_23 then (if (8 : Int32) ≤ x6_23 then (if (12 : Int32) ≤ x6_23 then (if (16 : Int32) ≤ x6_23 then (shX7_feed_k23_76 v_tapeSize x6_23 w_tape_23 a5) else (shX7_feed_k23_76 v_tapeSize x6_23 w_tape_23 a4)) else (shX7_feed_k23_76 v_tapeSize x6_23 w_tape_23 a3)) else (shX7_feed_k23_76 v_tapeSize x6_23 w_tape_23 a2)) else (shX7_feed_k23_76 v_tapeSize x6_23 w_tape_23 a1)))
noncomputable def shX7_feed (a1 : Int32) (a2 : Int32) (a3 : Int32) (a4 : Int32) (a5 : Int32) (v_tapeSize : Int32) (v_thrown : Int32) (w_tape : Nat → Int32) : Option (Int32 × Int32 × Int32 × (Nat → Int32)) :=
  (if (v_tapeSize + (20 : Int32)) ≤ (200 : Int32) then ((lp (fun s : Int32 × (Nat → Int32) => shX7_feed_L23 a1 a2 a3 a4 a5 v_tapeSize s.1 s.2) ((0 : Int32), w_tape)).bind (fun p : (Nat → Int32) => shX7_feed_j_113 v_tapeSize (0 : Int32) p)) else some ((-1 : Int32), v_tapeSize, (0 : Int32), w_tape))
def wdX7_feed (cI cJ cZ : ClassId) (q_this q_tape q_prior q_pipesIn q_pipe q_met q_chance q_rock q_people q_bad q_well q_ends q_runs q_way q_words q_told q_weight q_days q_depth q_bestDepth q_hopes q_planOf q_planDepth : Nat) (v_tapeSize : Int32) (v_thrown : Int32) (v_salt : Int32) (v_dry : Int32) (v_rest : Int32) (v_fault : Int32) (v_faultPlace : Int32) (v_rocks : Int32) (v_villages : Int32) (v_day : Int32) (v_at : Int32) (v_allPipes : Int32) (v_end : Int32) (v_next : Int32) (v_kind : Int32) (v_which : Int32) (v_place : Int32) (v_isPlan : Int32) (v_planMany : Int32) (v_planPipes : Int32) (v_planDays : Int32) (w_tape : Nat → Int32) : va_W := [(q_this, .inr (7, [.ref q_tape, .int v_tapeSize, .int v_thrown, .int v_salt, .int v_dry, .int v_rest, .int v_fault, .int v_faultPlace, .int v_rocks, .ref q_prior, .ref q_pipesIn, .ref q_pipe, .ref q_met, .ref q_chance, .int v_villages, .ref q_rock, .ref q_people, .ref q_bad, .ref q_well, .ref q_ends, .ref q_runs, .ref q_way, .int v_day, .int v_at, .int v_allPipes, .ref q_words, .int v_end, .int v_next, .int v_kind, .int v_which, .int v_place, .ref q_told, .ref q_weight, .ref q_days, .ref q_depth, .ref q_bestDepth, .ref q_hopes, .int v_isPlan, .int v_planMany, .int v_planPipes, .int v_planDays, .ref q_planOf, .ref q_planDepth])), (q_tape, .inl (cI, 200, .inl w_tape))]
abbrev rmX7_feed : Room := { frames := 0, cells := 0, slots := 0, locals := 0 }
theorem inX7_feed_X7 : ∀ w ∈ u_ws RX7 TX7 43, w ∈ wsX7_feed := fun _ h => List.mem_cons_of_mem _ (List.mem_append_right _ h)
theorem lkX7_feed_88 : Cond.fieldLink RX7 88 (TX7 2).1 (TX7 2).2.1 (TX7 2).2.2.1 ∈ wsX7_feed := List.mem_of_getElem? (i := 1) rfl
theorem lkX7_feed_91 : Cond.fieldLink RX7 91 (TX7 1).1 (TX7 1).2.1 (TX7 1).2.2.1 ∈ wsX7_feed := List.mem_of_getElem? (i := 2) rfl
theorem lkX7_feed_7 : Cond.fieldLink RX7 7 (TX7 0).1 (TX7 0).2.1 (TX7 0).2.2.1 ∈ wsX7_feed := List.mem_of_getElem? (i := 3) rfl
theorem hdX7_feed : yX7_feed.cls = RX7 ∧ yX7_feed.cls ≠ "java/lang/invoke/MethodHandle" ∧ yX7_feed.cls ≠ "java/lang/invoke/VarHandle" ∧ (parseMethodDescriptor yX7_feed.desc).map (fun d => d.parameters.length) = some 5 := by decide +kernel
set_option maxHeartbeats 4000000 in
set_option maxRecDepth 100000 in
theorem ctX7_feed (l : Launch) (D : va_G) (cI cJ cZ : ClassId) (q_this q_tape q_prior q_pipesIn q_pipe q_met q_chance q_rock q_people q_bad q_well q_ends q_runs q_way q_words q_told q_weight q_days q_depth q_bestDepth q_hopes q_planOf q_planDepth : Nat) (v_tapeSize : Int32) (v_thrown : Int32) (v_salt : Int32) (v_dry : Int32) (v_rest : Int32) (v_fault : Int32) (v_faultPlace : Int32) (v_rocks : Int32) (v_villages : Int32) (v_day : Int32) (v_at : Int32) (v_allPipes : Int32) (v_end : Int32) (v_next : Int32) (v_kind : Int32) (v_which : Int32) (v_place : Int32) (v_isPlan : Int32) (v_planMany : Int32) (v_planPipes : Int32) (v_planDays : Int32) (w_tape : Nat → Int32) (a1 : Int32) (a2 : Int32) (a3 : Int32) (a4 : Int32) (a5 : Int32) (o : Int32 × Int32 × Int32 × (Nat → Int32)) (hsh : shX7_feed a1 a2 a3 a4 a5 v_tapeSize v_thrown w_tape = some o) : CtI l yX7_feed wsX7_feed rmX7_feed D (tys3 cI cJ cZ) noE (wdX7_feed cI cJ cZ q_this q_tape q_prior q_pipesIn q_pipe q_met q_chance q_rock q_people q_bad q_well q_ends q_runs q_way q_words q_told q_weight q_days q_depth q_bestDepth q_hopes q_planOf q_planDepth v_tapeSize v_thrown v_salt v_dry v_rest v_fault v_faultPlace v_rocks v_villages v_day v_at v_allPipes v_end v_next v_kind v_which v_place v_isPlan v_planMany v_planPipes v_planDays w_tape) [.ref q_this, .int a1, .int a2, .int a3, .int a4, .int a5] o.1 (wdX7_feed cI cJ cZ q_this q_tape q_prior q_pipesIn q_pipe q_met q_chance q_rock q_people q_bad q_well q_ends q_runs q_way q_words q_told q_weight q_days q_depth q_bestDepth q_hopes q_planOf q_planDepth o.2.1 o.2.2.1 v_salt v_dry v_rest v_fault v_faultPlace v_rocks v_villages v_day v_at v_allPipes v_end v_next v_kind v_which v_place v_isPlan v_planMany v_planPipes v_planDays o.2.2.2) := by
  refine ctI plX7 rfl (Nat.le_of_ble_eq_true rfl) ?_
  intro p e s m below meth c A Q S hK hA hE hret H locs hP hD hS ls hl
  replace S : CallFix p m c cX7_feed 8 s _ wsX7_feed RX7 := S
  generalize ([.ref q_this, .int a1, .int a2, .int a3, .int a4, .int a5] : List Value).toArray = args at S hret ⊢
  obtain ⟨hx, hb, hml, hown, hts⟩ := id S
  replace hl : lv_has ls 8 [(0, .ref q_this), (1, .int a1), (2, .int a2), (3, .int a3), (4, .int a4), (5, .int a5)] := hl
  unfold shX7_feed at hsh
  have Jj_113 : ∀ (v_thrown_j_113 : Int32) (w_tape_j_113 : Nat → Int32) (H : Heap) (locs : List Loc), va_P D vwCl (wdX7_feed cI cJ cZ q_this q_tape q_prior q_pipesIn q_pipe q_met q_chance q_rock q_people q_bad q_well q_ends q_runs q_way q_words q_told q_weight q_days q_depth q_bestDepth q_hopes q_planOf q_planDepth v_tapeSize v_thrown_j_113 v_salt v_dry v_rest v_fault v_faultPlace v_rocks v_villages v_day v_at v_allPipes v_end v_next v_kind v_which v_place v_isPlan v_planMany v_planPipes v_planDays w_tape_j_113) H → va_D A (wdX7_feed cI cJ cZ q_this q_tape q_prior q_pipesIn q_pipe q_met q_chance q_rock q_people q_bad q_well q_ends q_runs q_way q_words q_told q_weight q_days q_depth q_bestDepth q_hopes q_planOf q_planDepth v_tapeSize v_thrown_j_113 v_salt v_dry v_rest v_fault v_faultPlace v_rocks v_villages v_day v_at v_allPipes v_end v_next v_kind v_which v_place v_isPlan v_planMany v_planPipes v_planDays w_tape_j_113) → va_S A s.heap H locs → ∀ ls : Array Slot, lv_has ls 8 [(0, .ref q_this)] → shX7_feed_j_113 v_tapeSize v_thrown_j_113 w_tape_j_113 = some o → W p l e rmX7_feed s m args below meth c H locs 0 0 Q (F0 m 113 ls []) := by
    intro v_thrown_j_113 w_tape_j_113 H locs hP hD hS ls hl hsh
    unfold shX7_feed_j_113 at hsh
    refine lv_aload_n hx hb dX7_feed_113 rfl (lv_at hl 0 rfl) ?_
    refine lv_dup hx hb dX7_feed_114 rfl ?_
    refine kget (ci := 7) S hK hP rfl inX7_feed_X7 0 rfl 1 (by decide) lkX7_feed_91 rfl dX7_feed_115 ?_
    refine lv_bipush (v := (20 : Int32)) hx hb dX7_feed_118 (by decide) ?_
    refine lv_iadd hx hb dX7_feed_120 ?_
    refine kput (ci := 7) S hK hP hD hS rfl inX7_feed_X7 tyX7_ok nmX7 0 rfl 1 (by decide) lkX7_feed_91 rfl rfl rfl (Nat.le_of_ble_eq_true rfl) (ws' := (wdX7_feed cI cJ cZ q_this q_tape q_prior q_pipesIn q_pipe q_met q_chance q_rock q_people q_bad q_well q_ends q_runs q_way q_words q_told q_weight q_days q_depth q_bestDepth q_hopes q_planOf q_planDepth (v_tapeSize + (20 : Int32)) v_thrown_j_113 v_salt v_dry v_rest v_fault v_faultPlace v_rocks v_villages v_day v_at v_allPipes v_end v_next v_kind v_which v_place v_isPlan v_planMany v_planPipes v_planDays w_tape_j_113)) rfl dX7_feed_121 (fun H locs hP hD hS => ?_)
    refine lv_aload_n hx hb dX7_feed_124 rfl (lv_at hl 0 rfl) ?_
    refine kget (ci := 7) S hK hP rfl inX7_feed_X7 0 rfl 1 (by decide) lkX7_feed_91 rfl dX7_feed_125 ?_
    have ho := Option.some.inj hsh
    rw [← ho] at hret
    exact hret _ _ _ _ dX7_feed_128 hP hD hS
  refine lv_aload_n hx hb dX7_feed_0 rfl (lv_at hl 0 rfl) ?_
  refine lv_iconst (v := (0 : Int32)) hx hb dX7_feed_1 (by decide) ?_
  refine kput (ci := 7) S hK hP hD hS rfl inX7_feed_X7 tyX7_ok nmX7 0 rfl 2 (by decide) lkX7_feed_88 rfl rfl rfl (Nat.le_of_ble_eq_true rfl) (ws' := (wdX7_feed cI cJ cZ q_this q_tape q_prior q_pipesIn q_pipe q_met q_chance q_rock q_people q_bad q_well q_ends q_runs q_way q_words q_told q_weight q_days q_depth q_bestDepth q_hopes q_planOf q_planDepth v_tapeSize (0 : Int32) v_salt v_dry v_rest v_fault v_faultPlace v_rocks v_villages v_day v_at v_allPipes v_end v_next v_kind v_which v_place v_isPlan v_planMany v_planPipes v_planDays w_tape)) rfl dX7_feed_2 (fun H locs hP hD hS => ?_)
  refine lv_aload_n hx hb dX7_feed_5 rfl (lv_at hl 0 rfl) ?_
  refine kget (ci := 7) S hK hP rfl inX7_feed_X7 0 rfl 1 (by decide) lkX7_feed_91 rfl dX7_feed_6 ?_
  refine lv_bipush (v := (20 : Int32)) hx hb dX7_feed_9 (by decide) ?_
  refine lv_iadd hx hb dX7_feed_11 ?_
  refine lv_sipush (v := (200 : Int32)) hx hb dX7_feed_12 (by decide) ?_
  refine lv_icmp_le (tgt := 20) hx hb dX7_feed_15 (by decide) (fun c1 => ?_) (fun c1 => ?_)
  · skip
    have hsh := ite_t hsh c1
    refine lv_iconst (v := (0 : Int32)) hx hb dX7_feed_20 (by decide) ?_
    refine lv_istore (lv' := [(6, .int (0 : Int32)), (0, .ref q_this), (1, .int a1), (2, .int a2), (3, .int a3), (4, .int a4), (5, .int a5)]) hx hb dX7_feed_21 hl (by decide) rfl (fun ls hl => ?_)
    obtain ⟨r_23, hl_23, hk_23⟩ := bd hsh
    obtain ⟨n_23, hn_23⟩ := lp_iff.mp hl_23
    have L_23 : ∀ (n : Nat) (x6_23 : Int32) (w_tape_23 : Nat → Int32) (H : Heap) (locs : List Loc), va_P D vwCl (wdX7_feed cI cJ cZ q_this q_tape q_prior q_pipesIn q_pipe q_met q_chance q_rock q_people q_bad q_well q_ends q_runs q_way q_words q_told q_weight q_days q_depth q_bestDepth q_hopes q_planOf q_planDepth v_tapeSize (0 : Int32) v_salt v_dry v_rest v_fault v_faultPlace v_rocks v_villages v_day v_at v_allPipes v_end v_next v_kind v_which v_place v_isPlan v_planMany v_planPipes v_planDays w_tape_23) H → va_D A (wdX7_feed cI cJ cZ q_this q_tape q_prior q_pipesIn q_pipe q_met q_chance q_rock q_people q_bad q_well q_ends q_runs q_way q_words q_told q_weight q_days q_depth q_bestDepth q_hopes q_planOf q_planDepth v_tapeSize (0 : Int32) v_salt v_dry v_rest v_fault v_faultPlace v_rocks v_villages v_day v_at v_allPipes v_end v_next v_kind v_which v_place v_isPlan v_planMany v_planPipes v_planDays w_tape_23) → va_S A s.heap H locs → ∀ ls : Array Slot, lv_has ls 8 [(0, .ref q_this), (1, .int a1), (2, .int a2), (3, .int a3), (4, .int a4), (5, .int a5), (6, .int x6_23)] → it (fun s : Int32 × (Nat → Int32) => shX7_feed_L23 a1 a2 a3 a4 a5 v_tapeSize s.1 s.2) n (x6_23, w_tape_23) = some r_23 → W p l e rmX7_feed s m args below meth c H locs 0 0 Q (F0 m 23 ls []) := by
      intro n
      induction n with
      | zero => exact fun _ _ _ _ _ _ _ _ _ hi => it_0 hi
      | succ n ih_23 =>
        intro x6_23 w_tape_23 H locs hP hD hS ls hl hi
        obtain ⟨b_23, hsh, hB1_23, hB2_23⟩ := it_b hi
        replace hsh : shX7_feed_L23 a1 a2 a3 a4 a5 v_tapeSize x6_23 w_tape_23 = some b_23 := hsh
        unfold shX7_feed_L23 at hsh
        have Jk23_76 : ∀ (s0_k23_76 : Int32) (H : Heap) (locs : List Loc), va_P D vwCl (wdX7_feed cI cJ cZ q_this q_tape q_prior q_pipesIn q_pipe q_met q_chance q_rock q_people q_bad q_well q_ends q_runs q_way q_words q_told q_weight q_days q_depth q_bestDepth q_hopes q_planOf q_planDepth v_tapeSize (0 : Int32) v_salt v_dry v_rest v_fault v_faultPlace v_rocks v_villages v_day v_at v_allPipes v_end v_next v_kind v_which v_place v_isPlan v_planMany v_planPipes v_planDays w_tape_23) H → va_D A (wdX7_feed cI cJ cZ q_this q_tape q_prior q_pipesIn q_pipe q_met q_chance q_rock q_people q_bad q_well q_ends q_runs q_way q_words q_told q_weight q_days q_depth q_bestDepth q_hopes q_planOf q_planDepth v_tapeSize (0 : Int32) v_salt v_dry v_rest v_fault v_faultPlace v_rocks v_villages v_day v_at v_allPipes v_end v_next v_kind v_which v_place v_isPlan v_planMany v_planPipes v_planDays w_tape_23) → va_S A s.heap H locs → ∀ ls : Array Slot, lv_has ls 8 [(0, .ref q_this), (1, .int a1), (2, .int a2), (3, .int a3), (4, .int a4), (5, .int a5), (6, .int x6_23)] → shX7_feed_k23_76 v_tapeSize x6_23 w_tape_23 s0_k23_76 = some b_23 → W p l e rmX7_feed s m args below meth c H locs 0 0 Q (F0 m 76 ls [.int s0_k23_76]) := by
          intro s0_k23_76 H locs hP hD hS ls hl hsh
          unfold shX7_feed_k23_76 at hsh
          refine lv_istore (lv' := [(7, .int s0_k23_76), (0, .ref q_this), (1, .int a1), (2, .int a2), (3, .int a3), (4, .int a4), (5, .int a5), (6, .int x6_23)]) hx hb dX7_feed_76 hl (by decide) rfl (fun ls hl => ?_)
          refine lv_aload_n hx hb dX7_feed_78 rfl (lv_at hl 1 rfl) ?_
          refine kget (ci := 7) S hK hP rfl inX7_feed_X7 0 rfl 0 (by decide) lkX7_feed_7 rfl dX7_feed_79 ?_
          refine lv_aload_n hx hb dX7_feed_82 rfl (lv_at hl 1 rfl) ?_
          refine kget (ci := 7) S hK hP rfl inX7_feed_X7 0 rfl 1 (by decide) lkX7_feed_91 rfl dX7_feed_83 ?_
          refine lv_iload hx hb dX7_feed_86 (lv_at hl 7 rfl) ?_
          refine lv_iadd hx hb dX7_feed_88 ?_
          refine lv_iload hx hb dX7_feed_89 (lv_at hl 0 rfl) ?_
          refine lv_bipush (v := (24 : Int32)) hx hb dX7_feed_91 (by decide) ?_
          refine lv_bipush (v := (8 : Int32)) hx hb dX7_feed_93 (by decide) ?_
          refine lv_iload hx hb dX7_feed_95 (lv_at hl 7 rfl) ?_
          refine lv_iconst (v := (4 : Int32)) hx hb dX7_feed_97 (by decide) ?_
          refine lv_irem hx hb dX7_feed_98 (by decide) ?_
          refine lv_imul hx hb dX7_feed_99 ?_
          refine lv_isub hx hb dX7_feed_100 ?_
          refine lv_ishr hx hb dX7_feed_101 ?_
          refine lv_sipush (v := (255 : Int32)) hx hb dX7_feed_102 (by decide) ?_
          refine lv_iand hx hb dX7_feed_105 ?_
          obtain ⟨_, hg, hsh⟩ := bd hsh
          refine kias S hK hP hD hS 1 0 rfl rfl (gd_in hg) (ws' := (wdX7_feed cI cJ cZ q_this q_tape q_prior q_pipesIn q_pipe q_met q_chance q_rock q_people q_bad q_well q_ends q_runs q_way q_words q_told q_weight q_days q_depth q_bestDepth q_hopes q_planOf q_planDepth v_tapeSize (0 : Int32) v_salt v_dry v_rest v_fault v_faultPlace v_rocks v_villages v_day v_at v_allPipes v_end v_next v_kind v_which v_place v_isPlan v_planMany v_planPipes v_planDays (upd w_tape_23 ((v_tapeSize + x6_23)).toNatClampNeg ((s0_k23_76 >>> (((24 : Int32) - ((8 : Int32) * (x6_23 - x6_23 / (4 : Int32) * (4 : Int32)))) &&& 31)) &&& (255 : Int32))))) rfl dX7_feed_106 (fun H locs hP hD hS => ?_)
          refine lv_iinc (v := (x6_23 + (1 : Int32))) (lv' := [(6, .int (x6_23 + (1 : Int32))), (7, .int s0_k23_76), (0, .ref q_this), (1, .int a1), (2, .int a2), (3, .int a3), (4, .int a4), (5, .int a5)]) hx hb dX7_feed_107 hl (k := 7) rfl (congrArg (fun z : Int32 => x6_23 + z) (by decide)) (by decide) rfl (fun ls hl => ?_)
          refine lv_goto (tgt := 23) hx hb dX7_feed_110 (by decide) ?_
          exact ih_23 (x6_23 + (1 : Int32)) (upd w_tape_23 ((v_tapeSize + x6_23)).toNatClampNeg ((s0_k23_76 >>> (((24 : Int32) - ((8 : Int32) * (x6_23 - x6_23 / (4 : Int32) * (4 : Int32)))) &&& 31)) &&& (255 : Int32))) H locs hP hD hS ls (lv_sub hl [2, 3, 4, 5, 6, 7, 0] rfl) (hB1_23 _ hsh)
        refine lv_iload hx hb dX7_feed_23 (lv_at hl 6 rfl) ?_
        refine lv_bipush (v := (20 : Int32)) hx hb dX7_feed_25 (by decide) ?_
        refine lv_icmp_ge (tgt := 113) hx hb dX7_feed_27 (by decide) (fun c1 => ?_) (fun c1 => ?_)
        · skip
          have hsh := ite_t hsh c1
          have he := hB2_23 _ hsh
          rw [← he] at hk_23
          exact Jj_113 (0 : Int32) w_tape_23 H locs hP hD hS ls (lv_sub hl [0] rfl) hk_23
        · skip
          have hsh := ite_f hsh c1
          refine lv_iload hx hb dX7_feed_30 (lv_at hl 6 rfl) ?_
          refine lv_iconst (v := (4 : Int32)) hx hb dX7_feed_32 (by decide) ?_
          refine lv_icmp_ge (tgt := 40) hx hb dX7_feed_33 (by decide) (fun c1 => ?_) (fun c1 => ?_)
          · skip
            have hsh := ite_t hsh c1
            refine lv_iload hx hb dX7_feed_40 (lv_at hl 6 rfl) ?_
            refine lv_bipush (v := (8 : Int32)) hx hb dX7_feed_42 (by decide) ?_
            refine lv_icmp_ge (tgt := 51) hx hb dX7_feed_44 (by decide) (fun c1 => ?_) (fun c1 => ?_)
            · skip
              have hsh := ite_t hsh c1
              refine lv_iload hx hb dX7_feed_51 (lv_at hl 6 rfl) ?_
              refine lv_bipush (v := (12 : Int32)) hx hb dX7_feed_53 (by decide) ?_
              refine lv_icmp_ge (tgt := 62) hx hb dX7_feed_55 (by decide) (fun c1 => ?_) (fun c1 => ?_)
              · skip
                have hsh := ite_t hsh c1
                refine lv_iload hx hb dX7_feed_62 (lv_at hl 6 rfl) ?_
                refine lv_bipush (v := (16 : Int32)) hx hb dX7_feed_64 (by decide) ?_
                refine lv_icmp_ge (tgt := 74) hx hb dX7_feed_66 (by decide) (fun c1 => ?_) (fun c1 => ?_)
                · skip
                  have hsh := ite_t hsh c1
                  refine lv_iload hx hb dX7_feed_74 (lv_at hl 5 rfl) ?_
                  exact Jk23_76 a5 H locs hP hD hS ls (lv_sub hl [0, 1, 2, 3, 4, 5, 6] rfl) hsh
                · skip
                  have hsh := ite_f hsh c1
                  refine lv_iload hx hb dX7_feed_69 (lv_at hl 4 rfl) ?_
                  refine lv_goto (tgt := 76) hx hb dX7_feed_71 (by decide) ?_
                  exact Jk23_76 a4 H locs hP hD hS ls (lv_sub hl [0, 1, 2, 3, 4, 5, 6] rfl) hsh
              · skip
                have hsh := ite_f hsh c1
                refine lv_iload_n hx hb dX7_feed_58 rfl (lv_at hl 3 rfl) ?_
                refine lv_goto (tgt := 76) hx hb dX7_feed_59 (by decide) ?_
                exact Jk23_76 a3 H locs hP hD hS ls (lv_sub hl [0, 1, 2, 3, 4, 5, 6] rfl) hsh
            · skip
              have hsh := ite_f hsh c1
              refine lv_iload_n hx hb dX7_feed_47 rfl (lv_at hl 2 rfl) ?_
              refine lv_goto (tgt := 76) hx hb dX7_feed_48 (by decide) ?_
              exact Jk23_76 a2 H locs hP hD hS ls (lv_sub hl [0, 1, 2, 3, 4, 5, 6] rfl) hsh
          · skip
            have hsh := ite_f hsh c1
            refine lv_iload_n hx hb dX7_feed_36 rfl (lv_at hl 1 rfl) ?_
            refine lv_goto (tgt := 76) hx hb dX7_feed_37 (by decide) ?_
            exact Jk23_76 a1 H locs hP hD hS ls (lv_sub hl [0, 1, 2, 3, 4, 5, 6] rfl) hsh
    exact L_23 n_23 (0 : Int32) w_tape H locs hP hD hS ls (lv_sub hl [1, 2, 3, 4, 5, 6, 0] rfl) hn_23
  · skip
    have hsh := ite_f hsh c1
    refine lv_iconst (v := (-1 : Int32)) hx hb dX7_feed_18 (by decide) ?_
    have ho := Option.some.inj hsh
    rw [← ho] at hret
    exact hret _ _ _ _ dX7_feed_19 hP hD hS

/-! DryWellsModel.wrong -/
noncomputable def shX7_wrong (a1 : Int32) (a2 : Int32) (v_fault : Int32) (v_faultPlace : Int32) : Option (Int32 × Int32 × Int32) :=
  some ((0 : Int32), a1, a2)
def wdX7_wrong (cI cJ cZ : ClassId) (q_this q_tape q_prior q_pipesIn q_pipe q_met q_chance q_rock q_people q_bad q_well q_ends q_runs q_way q_words q_told q_weight q_days q_depth q_bestDepth q_hopes q_planOf q_planDepth : Nat) (v_tapeSize : Int32) (v_thrown : Int32) (v_salt : Int32) (v_dry : Int32) (v_rest : Int32) (v_fault : Int32) (v_faultPlace : Int32) (v_rocks : Int32) (v_villages : Int32) (v_day : Int32) (v_at : Int32) (v_allPipes : Int32) (v_end : Int32) (v_next : Int32) (v_kind : Int32) (v_which : Int32) (v_place : Int32) (v_isPlan : Int32) (v_planMany : Int32) (v_planPipes : Int32) (v_planDays : Int32) : va_W := [(q_this, .inr (7, [.ref q_tape, .int v_tapeSize, .int v_thrown, .int v_salt, .int v_dry, .int v_rest, .int v_fault, .int v_faultPlace, .int v_rocks, .ref q_prior, .ref q_pipesIn, .ref q_pipe, .ref q_met, .ref q_chance, .int v_villages, .ref q_rock, .ref q_people, .ref q_bad, .ref q_well, .ref q_ends, .ref q_runs, .ref q_way, .int v_day, .int v_at, .int v_allPipes, .ref q_words, .int v_end, .int v_next, .int v_kind, .int v_which, .int v_place, .ref q_told, .ref q_weight, .ref q_days, .ref q_depth, .ref q_bestDepth, .ref q_hopes, .int v_isPlan, .int v_planMany, .int v_planPipes, .int v_planDays, .ref q_planOf, .ref q_planDepth]))]
abbrev rmX7_wrong : Room := { frames := 0, cells := 0, slots := 0, locals := 0 }
theorem inX7_wrong_X7 : ∀ w ∈ u_ws RX7 TX7 43, w ∈ wsX7_wrong := fun _ h => List.mem_cons_of_mem _ (List.mem_append_right _ h)
theorem lkX7_wrong_94 : Cond.fieldLink RX7 94 (TX7 6).1 (TX7 6).2.1 (TX7 6).2.2.1 ∈ wsX7_wrong := List.mem_of_getElem? (i := 1) rfl
theorem lkX7_wrong_20 : Cond.fieldLink RX7 20 (TX7 7).1 (TX7 7).2.1 (TX7 7).2.2.1 ∈ wsX7_wrong := List.mem_of_getElem? (i := 2) rfl
theorem hdX7_wrong : yX7_wrong.cls = RX7 ∧ yX7_wrong.cls ≠ "java/lang/invoke/MethodHandle" ∧ yX7_wrong.cls ≠ "java/lang/invoke/VarHandle" ∧ (parseMethodDescriptor yX7_wrong.desc).map (fun d => d.parameters.length) = some 2 := by decide +kernel
set_option maxHeartbeats 4000000 in
set_option maxRecDepth 100000 in
theorem ctX7_wrong (l : Launch) (D : va_G) (cI cJ cZ : ClassId) (q_this q_tape q_prior q_pipesIn q_pipe q_met q_chance q_rock q_people q_bad q_well q_ends q_runs q_way q_words q_told q_weight q_days q_depth q_bestDepth q_hopes q_planOf q_planDepth : Nat) (v_tapeSize : Int32) (v_thrown : Int32) (v_salt : Int32) (v_dry : Int32) (v_rest : Int32) (v_fault : Int32) (v_faultPlace : Int32) (v_rocks : Int32) (v_villages : Int32) (v_day : Int32) (v_at : Int32) (v_allPipes : Int32) (v_end : Int32) (v_next : Int32) (v_kind : Int32) (v_which : Int32) (v_place : Int32) (v_isPlan : Int32) (v_planMany : Int32) (v_planPipes : Int32) (v_planDays : Int32) (a1 : Int32) (a2 : Int32) (o : Int32 × Int32 × Int32) (hsh : shX7_wrong a1 a2 v_fault v_faultPlace = some o) : CtI l yX7_wrong wsX7_wrong rmX7_wrong D (tys3 cI cJ cZ) noE (wdX7_wrong cI cJ cZ q_this q_tape q_prior q_pipesIn q_pipe q_met q_chance q_rock q_people q_bad q_well q_ends q_runs q_way q_words q_told q_weight q_days q_depth q_bestDepth q_hopes q_planOf q_planDepth v_tapeSize v_thrown v_salt v_dry v_rest v_fault v_faultPlace v_rocks v_villages v_day v_at v_allPipes v_end v_next v_kind v_which v_place v_isPlan v_planMany v_planPipes v_planDays) [.ref q_this, .int a1, .int a2] o.1 (wdX7_wrong cI cJ cZ q_this q_tape q_prior q_pipesIn q_pipe q_met q_chance q_rock q_people q_bad q_well q_ends q_runs q_way q_words q_told q_weight q_days q_depth q_bestDepth q_hopes q_planOf q_planDepth v_tapeSize v_thrown v_salt v_dry v_rest o.2.1 o.2.2 v_rocks v_villages v_day v_at v_allPipes v_end v_next v_kind v_which v_place v_isPlan v_planMany v_planPipes v_planDays) := by
  refine ctZ plX7 rfl (Nat.le_of_ble_eq_true rfl) ?_
  intro p e s m below meth c A Q S hK hA hE hret H locs hP hD hS ls hl
  replace S : CallFix p m c cX7_wrong 3 s _ wsX7_wrong RX7 := S
  generalize ([.ref q_this, .int a1, .int a2] : List Value).toArray = args at S hret ⊢
  obtain ⟨hx, hb, hml, hown, hts⟩ := id S
  replace hl : lv_has ls 3 [(0, .ref q_this), (1, .int a1), (2, .int a2)] := hl
  unfold shX7_wrong at hsh
  refine lv_aload_n hx hb dX7_wrong_0 rfl (lv_at hl 0 rfl) ?_
  refine lv_iload_n hx hb dX7_wrong_1 rfl (lv_at hl 1 rfl) ?_
  refine kput (ci := 7) S hK hP hD hS rfl inX7_wrong_X7 tyX7_ok nmX7 0 rfl 6 (by decide) lkX7_wrong_94 rfl rfl rfl (Nat.le_of_ble_eq_true rfl) (ws' := (wdX7_wrong cI cJ cZ q_this q_tape q_prior q_pipesIn q_pipe q_met q_chance q_rock q_people q_bad q_well q_ends q_runs q_way q_words q_told q_weight q_days q_depth q_bestDepth q_hopes q_planOf q_planDepth v_tapeSize v_thrown v_salt v_dry v_rest a1 v_faultPlace v_rocks v_villages v_day v_at v_allPipes v_end v_next v_kind v_which v_place v_isPlan v_planMany v_planPipes v_planDays)) rfl dX7_wrong_2 (fun H locs hP hD hS => ?_)
  refine lv_aload_n hx hb dX7_wrong_5 rfl (lv_at hl 0 rfl) ?_
  refine lv_iload_n hx hb dX7_wrong_6 rfl (lv_at hl 2 rfl) ?_
  refine kput (ci := 7) S hK hP hD hS rfl inX7_wrong_X7 tyX7_ok nmX7 0 rfl 7 (by decide) lkX7_wrong_20 rfl rfl rfl (Nat.le_of_ble_eq_true rfl) (ws' := (wdX7_wrong cI cJ cZ q_this q_tape q_prior q_pipesIn q_pipe q_met q_chance q_rock q_people q_bad q_well q_ends q_runs q_way q_words q_told q_weight q_days q_depth q_bestDepth q_hopes q_planOf q_planDepth v_tapeSize v_thrown v_salt v_dry v_rest a1 a2 v_rocks v_villages v_day v_at v_allPipes v_end v_next v_kind v_which v_place v_isPlan v_planMany v_planPipes v_planDays)) rfl dX7_wrong_7 (fun H locs hP hD hS => ?_)
  refine lv_iconst (v := (0 : Int32)) hx hb dX7_wrong_10 (by decide) ?_
  have ho := Option.some.inj hsh
  rw [← ho] at hret
  exact hret _ _ _ _ nar0 dX7_wrong_11 hP hD hS

/-! DryWellsModel.wordAt -/
noncomputable def shX7_wordAt_j_109 (x3_j_109 : Int32) : Option (Int32) :=
  some x3_j_109
noncomputable def shX7_wordAt_j_126  : Option (Int32) :=
  some (-1 : Int32)
noncomputable def shX7_wordAt_k5_104 (x3_5 : Int32) (x4_5 : Int32) (x5_k5_104 : Int32) (x6_k5_104 : Int32) : Option ((Int32 × Int32) ⊕ ((Int32) ⊕ (Unit))) :=
  (if x6_k5_104 = 0 then some (Sum.inl ((x3_5 + (1 : Int32)), (x4_5 + (x5_k5_104 + (1 : Int32))))) else some (Sum.inr (Sum.inl x3_5)))
noncomputable def shX7_wordAt_k57_96 (x7_57 : Int32) (s0_k57_96 : Int32) : Option ((Int32 × Int32) ⊕ ((Int32))) :=
  some (Sum.inl (s0_k57_96, (x7_57 + (1 : Int32))))
noncomputable def shX7_wordAt_L57 (a1 : Int32) (w_tape : Nat → Int32) (w_words : Nat → Int32) (x4_5 : Int32) (x5_k5_52 : Int32) (x6_57 : Int32) (x7_57 : Int32) : Option ((Int32 × Int32) ⊕ ((Int32))) :=
  (if x5_k5_52 ≤ x7_57 then some (Sum.inr x6_57) else (if x6_57 = 0 then some (Sum.inr x6_57) else ((gd (x4_5 + x7_57) 14).bind fun _ => ((gd (a1 + x7_57) 200).bind fun _ => (if ¬ (w_words ((x4_5 + x7_57)).toNatClampNeg) = (w_tape ((a1 + x7_57)).toNatClampNeg) then (shX7_wordAt_k57_96 x7_57 (0 : Int32)) else (shX7_wordAt_k57_96 x7_57 (1 : Int32)))))))
noncomputable def shX7_wordAt_k5_52 (a1 : Int32) (w_tape : Nat → Int32) (w_words : Nat → Int32) (x3_5 : Int32) (x4_5 : Int32) (s0_k5_52 : Int32) (x5_k5_52 : Int32) : Option ((Int32 × Int32) ⊕ ((Int32) ⊕ (Unit))) :=
  ((lp (fun s : Int32 × Int32 => shX7_wordAt_L57 a1 w_tape w_words x4_5 x5_k5_52 s.1 s.2) (s0_k5_52, (0 : Int32))).bind (fun p : Int32 => shX7_wordAt_k5_104 x3_5 x4_5 x5_k5_52 p))
noncomputable def shX7_wordAt_k5_39 (a1 : Int32) (a2 : Int32) (w_tape : Nat → Int32) (w_words : Nat → Int32) (x3_5 : Int32) (x4_5 : Int32) (x5_k5_39 : Int32) : Option ((Int32 × Int32) ⊕ ((Int32) ⊕ (Unit))) :=
  (if ¬ x5_k5_39 = (a2 - a1) then (shX7_wordAt_k5_52 a1 w_tape w_words x3_5 x4_5 (0 : Int32) x5_k5_39) else (shX7_wordAt_k5_52 a1 w_tape w_words x3_5 x4_5 (1 : Int32) x5_k5_39))
noncomputable def shX7_wordAt_L18 (w_words : Nat → Int32) (x4_5 : Int32) (x5_18 : Int32) : Option ((Int32) ⊕ ((Int32))) :=
  ((gd (x4_5 + x5_18) 14).bind fun _ => (if (w_words ((x4_5 + x5_18)).toNatClampNeg) = (32 : Int32) then some (Sum.inr x5_18) else some (Sum.inl (x5_18 + (1 : Int32)))))
noncomputable def shX7_wordAt_L5 (a1 : Int32) (a2 : Int32) (w_tape : Nat → Int32) (w_words : Nat → Int32) (x3_5 : Int32) (x4_5 : Int32) : Option ((Int32 × Int32) ⊕ ((Int32) ⊕ (Unit))) :=
  (if (14 : Int32) ≤ x4_5 then some (Sum.inr (Sum.inr ())) else ((lp (fun s : Int32 => shX7_wordAt_L18 w_words x4_5 s) (0 : Int32)).bind (fun p : Int32 => shX7_wordAt_k5_39 a1 a2 w_tape w_words x3_5 x4_5 p)))
noncomputable def shX7_wordAt (a1 : Int32) (a2 : Int32) (w_tape : Nat → Int32) (w_words : Nat → Int32) : Option (Int32) :=
  ((lp (fun s : Int32 × Int32 => shX7_wordAt_L5 a1 a2 w_tape w_words s.1 s.2) ((0 : Int32), (0 : Int32))).bind (Sum.elim (fun p : Int32 => shX7_wordAt_j_109 p) (fun p : Unit => shX7_wordAt_j_126)))
def wdX7_wordAt (cI cJ cZ : ClassId) (q_this q_tape q_prior q_pipesIn q_pipe q_met q_chance q_rock q_people q_bad q_well q_ends q_runs q_way q_words q_told q_weight q_days q_depth q_bestDepth q_hopes q_planOf q_planDepth : Nat) (v_tapeSize : Int32) (v_thrown : Int32) (v_salt : Int32) (v_dry : Int32) (v_rest : Int32) (v_fault : Int32) (v_faultPlace : Int32) (v_rocks : Int32) (v_villages : Int32) (v_day : Int32) (v_at : Int32) (v_allPipes : Int32) (v_end : Int32) (v_next : Int32) (v_kind : Int32) (v_which : Int32) (v_place : Int32) (v_isPlan : Int32) (v_planMany : Int32) (v_planPipes : Int32) (v_planDays : Int32) (w_tape : Nat → Int32) (w_words : Nat → Int32) : va_W := [(q_this, .inr (7, [.ref q_tape, .int v_tapeSize, .int v_thrown, .int v_salt, .int v_dry, .int v_rest, .int v_fault, .int v_faultPlace, .int v_rocks, .ref q_prior, .ref q_pipesIn, .ref q_pipe, .ref q_met, .ref q_chance, .int v_villages, .ref q_rock, .ref q_people, .ref q_bad, .ref q_well, .ref q_ends, .ref q_runs, .ref q_way, .int v_day, .int v_at, .int v_allPipes, .ref q_words, .int v_end, .int v_next, .int v_kind, .int v_which, .int v_place, .ref q_told, .ref q_weight, .ref q_days, .ref q_depth, .ref q_bestDepth, .ref q_hopes, .int v_isPlan, .int v_planMany, .int v_planPipes, .int v_planDays, .ref q_planOf, .ref q_planDepth])), (q_tape, .inl (cI, 200, .inl w_tape)), (q_words, .inl (cI, 14, .inl w_words))]
abbrev rmX7_wordAt : Room := { frames := 0, cells := 0, slots := 0, locals := 0 }
theorem inX7_wordAt_X7 : ∀ w ∈ u_ws RX7 TX7 43, w ∈ wsX7_wordAt := fun _ h => List.mem_cons_of_mem _ (List.mem_append_right _ h)
theorem lkX7_wordAt_60 : Cond.fieldLink RX7 60 (TX7 25).1 (TX7 25).2.1 (TX7 25).2.2.1 ∈ wsX7_wordAt := List.mem_of_getElem? (i := 1) rfl
theorem lkX7_wordAt_7 : Cond.fieldLink RX7 7 (TX7 0).1 (TX7 0).2.1 (TX7 0).2.2.1 ∈ wsX7_wordAt := List.mem_of_getElem? (i := 2) rfl
theorem hdX7_wordAt : yX7_wordAt.cls = RX7 ∧ yX7_wordAt.cls ≠ "java/lang/invoke/MethodHandle" ∧ yX7_wordAt.cls ≠ "java/lang/invoke/VarHandle" ∧ (parseMethodDescriptor yX7_wordAt.desc).map (fun d => d.parameters.length) = some 2 := by decide +kernel
set_option maxHeartbeats 4000000 in
set_option maxRecDepth 100000 in
theorem ctX7_wordAt (l : Launch) (D : va_G) (cI cJ cZ : ClassId) (q_this q_tape q_prior q_pipesIn q_pipe q_met q_chance q_rock q_people q_bad q_well q_ends q_runs q_way q_words q_told q_weight q_days q_depth q_bestDepth q_hopes q_planOf q_planDepth : Nat) (v_tapeSize : Int32) (v_thrown : Int32) (v_salt : Int32) (v_dry : Int32) (v_rest : Int32) (v_fault : Int32) (v_faultPlace : Int32) (v_rocks : Int32) (v_villages : Int32) (v_day : Int32) (v_at : Int32) (v_allPipes : Int32) (v_end : Int32) (v_next : Int32) (v_kind : Int32) (v_which : Int32) (v_place : Int32) (v_isPlan : Int32) (v_planMany : Int32) (v_planPipes : Int32) (v_planDays : Int32) (w_tape : Nat → Int32) (w_words : Nat → Int32) (a1 : Int32) (a2 : Int32) (o : Int32) (hsh : shX7_wordAt a1 a2 w_tape w_words = some o) : CtI l yX7_wordAt wsX7_wordAt rmX7_wordAt D (tys3 cI cJ cZ) noE (wdX7_wordAt cI cJ cZ q_this q_tape q_prior q_pipesIn q_pipe q_met q_chance q_rock q_people q_bad q_well q_ends q_runs q_way q_words q_told q_weight q_days q_depth q_bestDepth q_hopes q_planOf q_planDepth v_tapeSize v_thrown v_salt v_dry v_rest v_fault v_faultPlace v_rocks v_villages v_day v_at v_allPipes v_end v_next v_kind v_which v_place v_isPlan v_planMany v_planPipes v_planDays w_tape w_words) [.ref q_this, .int a1, .int a2] o (wdX7_wordAt cI cJ cZ q_this q_tape q_prior q_pipesIn q_pipe q_met q_chance q_rock q_people q_bad q_well q_ends q_runs q_way q_words q_told q_weight q_days q_depth q_bestDepth q_hopes q_planOf q_planDepth v_tapeSize v_thrown v_salt v_dry v_rest v_fault v_faultPlace v_rocks v_villages v_day v_at v_allPipes v_end v_next v_kind v_which v_place v_isPlan v_planMany v_planPipes v_planDays w_tape w_words) := by
  refine ctI plX7 rfl (Nat.le_of_ble_eq_true rfl) ?_
  intro p e s m below meth c A Q S hK hA hE hret H locs hP hD hS ls hl
  replace S : CallFix p m c cX7_wordAt 8 s _ wsX7_wordAt RX7 := S
  generalize ([.ref q_this, .int a1, .int a2] : List Value).toArray = args at S hret ⊢
  obtain ⟨hx, hb, hml, hown, hts⟩ := id S
  replace hl : lv_has ls 8 [(0, .ref q_this), (1, .int a1), (2, .int a2)] := hl
  unfold shX7_wordAt at hsh
  have Jj_109 : ∀ (x3_j_109 : Int32) (H : Heap) (locs : List Loc), va_P D vwCl (wdX7_wordAt cI cJ cZ q_this q_tape q_prior q_pipesIn q_pipe q_met q_chance q_rock q_people q_bad q_well q_ends q_runs q_way q_words q_told q_weight q_days q_depth q_bestDepth q_hopes q_planOf q_planDepth v_tapeSize v_thrown v_salt v_dry v_rest v_fault v_faultPlace v_rocks v_villages v_day v_at v_allPipes v_end v_next v_kind v_which v_place v_isPlan v_planMany v_planPipes v_planDays w_tape w_words) H → va_D A (wdX7_wordAt cI cJ cZ q_this q_tape q_prior q_pipesIn q_pipe q_met q_chance q_rock q_people q_bad q_well q_ends q_runs q_way q_words q_told q_weight q_days q_depth q_bestDepth q_hopes q_planOf q_planDepth v_tapeSize v_thrown v_salt v_dry v_rest v_fault v_faultPlace v_rocks v_villages v_day v_at v_allPipes v_end v_next v_kind v_which v_place v_isPlan v_planMany v_planPipes v_planDays w_tape w_words) → va_S A s.heap H locs → ∀ ls : Array Slot, lv_has ls 8 [(3, .int x3_j_109)] → shX7_wordAt_j_109 x3_j_109 = some o → W p l e rmX7_wordAt s m args below meth c H locs 0 0 Q (F0 m 109 ls []) := by
    intro x3_j_109 H locs hP hD hS ls hl hsh
    unfold shX7_wordAt_j_109 at hsh
    refine lv_iload_n hx hb dX7_wordAt_109 rfl (lv_at hl 0 rfl) ?_
    have ho := Option.some.inj hsh
    rw [← ho] at hret
    exact hret _ _ _ _ dX7_wordAt_110 hP hD hS
  have Jj_126 : ∀ (H : Heap) (locs : List Loc), va_P D vwCl (wdX7_wordAt cI cJ cZ q_this q_tape q_prior q_pipesIn q_pipe q_met q_chance q_rock q_people q_bad q_well q_ends q_runs q_way q_words q_told q_weight q_days q_depth q_bestDepth q_hopes q_planOf q_planDepth v_tapeSize v_thrown v_salt v_dry v_rest v_fault v_faultPlace v_rocks v_villages v_day v_at v_allPipes v_end v_next v_kind v_which v_place v_isPlan v_planMany v_planPipes v_planDays w_tape w_words) H → va_D A (wdX7_wordAt cI cJ cZ q_this q_tape q_prior q_pipesIn q_pipe q_met q_chance q_rock q_people q_bad q_well q_ends q_runs q_way q_words q_told q_weight q_days q_depth q_bestDepth q_hopes q_planOf q_planDepth v_tapeSize v_thrown v_salt v_dry v_rest v_fault v_faultPlace v_rocks v_villages v_day v_at v_allPipes v_end v_next v_kind v_which v_place v_isPlan v_planMany v_planPipes v_planDays w_tape w_words) → va_S A s.heap H locs → ∀ ls : Array Slot, lv_has ls 8 [] → shX7_wordAt_j_126 = some o → W p l e rmX7_wordAt s m args below meth c H locs 0 0 Q (F0 m 126 ls []) := by
    intro  H locs hP hD hS ls hl hsh
    unfold shX7_wordAt_j_126 at hsh
    refine lv_iconst (v := (-1 : Int32)) hx hb dX7_wordAt_126 (by decide) ?_
    have ho := Option.some.inj hsh
    rw [← ho] at hret
    exact hret _ _ _ _ dX7_wordAt_127 hP hD hS
  refine lv_iconst (v := (0 : Int32)) hx hb dX7_wordAt_0 (by decide) ?_
  refine lv_istore_n (lv' := [(3, .int (0 : Int32)), (0, .ref q_this), (1, .int a1), (2, .int a2)]) hx hb dX7_wordAt_1 rfl hl (by decide) rfl (fun ls hl => ?_)
  refine lv_iconst (v := (0 : Int32)) hx hb dX7_wordAt_2 (by decide) ?_
  refine lv_istore (lv' := [(4, .int (0 : Int32)), (3, .int (0 : Int32)), (0, .ref q_this), (1, .int a1), (2, .int a2)]) hx hb dX7_wordAt_3 hl (by decide) rfl (fun ls hl => ?_)
  obtain ⟨r_5, hl_5, hk_5⟩ := bd hsh
  obtain ⟨n_5, hn_5⟩ := lp_iff.mp hl_5
  have L_5 : ∀ (n : Nat) (x3_5 : Int32) (x4_5 : Int32) (H : Heap) (locs : List Loc), va_P D vwCl (wdX7_wordAt cI cJ cZ q_this q_tape q_prior q_pipesIn q_pipe q_met q_chance q_rock q_people q_bad q_well q_ends q_runs q_way q_words q_told q_weight q_days q_depth q_bestDepth q_hopes q_planOf q_planDepth v_tapeSize v_thrown v_salt v_dry v_rest v_fault v_faultPlace v_rocks v_villages v_day v_at v_allPipes v_end v_next v_kind v_which v_place v_isPlan v_planMany v_planPipes v_planDays w_tape w_words) H → va_D A (wdX7_wordAt cI cJ cZ q_this q_tape q_prior q_pipesIn q_pipe q_met q_chance q_rock q_people q_bad q_well q_ends q_runs q_way q_words q_told q_weight q_days q_depth q_bestDepth q_hopes q_planOf q_planDepth v_tapeSize v_thrown v_salt v_dry v_rest v_fault v_faultPlace v_rocks v_villages v_day v_at v_allPipes v_end v_next v_kind v_which v_place v_isPlan v_planMany v_planPipes v_planDays w_tape w_words) → va_S A s.heap H locs → ∀ ls : Array Slot, lv_has ls 8 [(0, .ref q_this), (1, .int a1), (2, .int a2), (3, .int x3_5), (4, .int x4_5)] → it (fun s : Int32 × Int32 => shX7_wordAt_L5 a1 a2 w_tape w_words s.1 s.2) n (x3_5, x4_5) = some r_5 → W p l e rmX7_wordAt s m args below meth c H locs 0 0 Q (F0 m 5 ls []) := by
    intro n
    induction n with
    | zero => exact fun _ _ _ _ _ _ _ _ _ hi => it_0 hi
    | succ n ih_5 =>
      intro x3_5 x4_5 H locs hP hD hS ls hl hi
      obtain ⟨b_5, hsh, hB1_5, hB2_5⟩ := it_b hi
      replace hsh : shX7_wordAt_L5 a1 a2 w_tape w_words x3_5 x4_5 = some b_5 := hsh
      unfold shX7_wordAt_L5 at hsh
      have Jk5_104 : ∀ (x5_k5_104 : Int32) (x6_k5_104 : Int32) (H : Heap) (locs : List Loc), va_P D vwCl (wdX7_wordAt cI cJ cZ q_this q_tape q_prior q_pipesIn q_pipe q_met q_chance q_rock q_people q_bad q_well q_ends q_runs q_way q_words q_told q_weight q_days q_depth q_bestDepth q_hopes q_planOf q_planDepth v_tapeSize v_thrown v_salt v_dry v_rest v_fault v_faultPlace v_rocks v_villages v_day v_at v_allPipes v_end v_next v_kind v_which v_place v_isPlan v_planMany v_planPipes v_planDays w_tape w_words) H → va_D A (wdX7_wordAt cI cJ cZ q_this q_tape q_prior q_pipesIn q_pipe q_met q_chance q_rock q_people q_bad q_well q_ends q_runs q_way q_words q_told q_weight q_days q_depth q_bestDepth q_hopes q_planOf q_planDepth v_tapeSize v_thrown v_salt v_dry v_rest v_fault v_faultPlace v_rocks v_villages v_day v_at v_allPipes v_end v_next v_kind v_which v_place v_isPlan v_planMany v_planPipes v_planDays w_tape w_words) → va_S A s.heap H locs → ∀ ls : Array Slot, lv_has ls 8 [(0, .ref q_this), (1, .int a1), (2, .int a2), (3, .int x3_5), (4, .int x4_5), (5, .int x5_k5_104), (6, .int x6_k5_104)] → shX7_wordAt_k5_104 x3_5 x4_5 x5_k5_104 x6_k5_104 = some b_5 → W p l e rmX7_wordAt s m args below meth c H locs 0 0 Q (F0 m 104 ls []) := by
        intro x5_k5_104 x6_k5_104 H locs hP hD hS ls hl hsh
        unfold shX7_wordAt_k5_104 at hsh
        refine lv_iload hx hb dX7_wordAt_104 (lv_at hl 6 rfl) ?_
        refine lv_if_eq (tgt := 111) hx hb dX7_wordAt_106 (by decide) (fun c1 => ?_) (fun c1 => ?_)
        · skip
          have hsh := ite_t hsh c1
          refine lv_iload hx hb dX7_wordAt_111 (lv_at hl 4 rfl) ?_
          refine lv_iload hx hb dX7_wordAt_113 (lv_at hl 5 rfl) ?_
          refine lv_iconst (v := (1 : Int32)) hx hb dX7_wordAt_115 (by decide) ?_
          refine lv_iadd hx hb dX7_wordAt_116 ?_
          refine lv_iadd hx hb dX7_wordAt_117 ?_
          refine lv_istore (lv' := [(4, .int (x4_5 + (x5_k5_104 + (1 : Int32)))), (0, .ref q_this), (1, .int a1), (2, .int a2), (3, .int x3_5), (5, .int x5_k5_104), (6, .int x6_k5_104)]) hx hb dX7_wordAt_118 hl (by decide) rfl (fun ls hl => ?_)
          refine lv_iinc (v := (x3_5 + (1 : Int32))) (lv' := [(3, .int (x3_5 + (1 : Int32))), (4, .int (x4_5 + (x5_k5_104 + (1 : Int32)))), (0, .ref q_this), (1, .int a1), (2, .int a2), (5, .int x5_k5_104), (6, .int x6_k5_104)]) hx hb dX7_wordAt_120 hl (k := 4) rfl (congrArg (fun z : Int32 => x3_5 + z) (by decide)) (by decide) rfl (fun ls hl => ?_)
          refine lv_goto (tgt := 5) hx hb dX7_wordAt_123 (by decide) ?_
          exact ih_5 (x3_5 + (1 : Int32)) (x4_5 + (x5_k5_104 + (1 : Int32))) H locs hP hD hS ls (lv_sub hl [2, 3, 4, 0, 1] rfl) (hB1_5 _ hsh)
        · skip
          have hsh := ite_f hsh c1
          have he := hB2_5 _ hsh
          rw [← he] at hk_5
          have hk_5 := se_l hk_5
          exact Jj_109 x3_5 H locs hP hD hS ls (lv_sub hl [3] rfl) hk_5
      have Jk5_52 : ∀ (s0_k5_52 : Int32) (x5_k5_52 : Int32) (H : Heap) (locs : List Loc), va_P D vwCl (wdX7_wordAt cI cJ cZ q_this q_tape q_prior q_pipesIn q_pipe q_met q_chance q_rock q_people q_bad q_well q_ends q_runs q_way q_words q_told q_weight q_days q_depth q_bestDepth q_hopes q_planOf q_planDepth v_tapeSize v_thrown v_salt v_dry v_rest v_fault v_faultPlace v_rocks v_villages v_day v_at v_allPipes v_end v_next v_kind v_which v_place v_isPlan v_planMany v_planPipes v_planDays w_tape w_words) H → va_D A (wdX7_wordAt cI cJ cZ q_this q_tape q_prior q_pipesIn q_pipe q_met q_chance q_rock q_people q_bad q_well q_ends q_runs q_way q_words q_told q_weight q_days q_depth q_bestDepth q_hopes q_planOf q_planDepth v_tapeSize v_thrown v_salt v_dry v_rest v_fault v_faultPlace v_rocks v_villages v_day v_at v_allPipes v_end v_next v_kind v_which v_place v_isPlan v_planMany v_planPipes v_planDays w_tape w_words) → va_S A s.heap H locs → ∀ ls : Array Slot, lv_has ls 8 [(0, .ref q_this), (1, .int a1), (2, .int a2), (3, .int x3_5), (4, .int x4_5), (5, .int x5_k5_52)] → shX7_wordAt_k5_52 a1 w_tape w_words x3_5 x4_5 s0_k5_52 x5_k5_52 = some b_5 → W p l e rmX7_wordAt s m args below meth c H locs 0 0 Q (F0 m 52 ls [.int s0_k5_52]) := by
        intro s0_k5_52 x5_k5_52 H locs hP hD hS ls hl hsh
        unfold shX7_wordAt_k5_52 at hsh
        refine lv_istore (lv' := [(6, .int s0_k5_52), (0, .ref q_this), (1, .int a1), (2, .int a2), (3, .int x3_5), (4, .int x4_5), (5, .int x5_k5_52)]) hx hb dX7_wordAt_52 hl (by decide) rfl (fun ls hl => ?_)
        refine lv_iconst (v := (0 : Int32)) hx hb dX7_wordAt_54 (by decide) ?_
        refine lv_istore (lv' := [(7, .int (0 : Int32)), (6, .int s0_k5_52), (0, .ref q_this), (1, .int a1), (2, .int a2), (3, .int x3_5), (4, .int x4_5), (5, .int x5_k5_52)]) hx hb dX7_wordAt_55 hl (by decide) rfl (fun ls hl => ?_)
        obtain ⟨r_57, hl_57, hk_57⟩ := bd hsh
        obtain ⟨n_57, hn_57⟩ := lp_iff.mp hl_57
        have L_57 : ∀ (n : Nat) (x6_57 : Int32) (x7_57 : Int32) (H : Heap) (locs : List Loc), va_P D vwCl (wdX7_wordAt cI cJ cZ q_this q_tape q_prior q_pipesIn q_pipe q_met q_chance q_rock q_people q_bad q_well q_ends q_runs q_way q_words q_told q_weight q_days q_depth q_bestDepth q_hopes q_planOf q_planDepth v_tapeSize v_thrown v_salt v_dry v_rest v_fault v_faultPlace v_rocks v_villages v_day v_at v_allPipes v_end v_next v_kind v_which v_place v_isPlan v_planMany v_planPipes v_planDays w_tape w_words) H → va_D A (wdX7_wordAt cI cJ cZ q_this q_tape q_prior q_pipesIn q_pipe q_met q_chance q_rock q_people q_bad q_well q_ends q_runs q_way q_words q_told q_weight q_days q_depth q_bestDepth q_hopes q_planOf q_planDepth v_tapeSize v_thrown v_salt v_dry v_rest v_fault v_faultPlace v_rocks v_villages v_day v_at v_allPipes v_end v_next v_kind v_which v_place v_isPlan v_planMany v_planPipes v_planDays w_tape w_words) → va_S A s.heap H locs → ∀ ls : Array Slot, lv_has ls 8 [(0, .ref q_this), (1, .int a1), (2, .int a2), (3, .int x3_5), (4, .int x4_5), (5, .int x5_k5_52), (6, .int x6_57), (7, .int x7_57)] → it (fun s : Int32 × Int32 => shX7_wordAt_L57 a1 w_tape w_words x4_5 x5_k5_52 s.1 s.2) n (x6_57, x7_57) = some r_57 → W p l e rmX7_wordAt s m args below meth c H locs 0 0 Q (F0 m 57 ls []) := by
          intro n
          induction n with
          | zero => exact fun _ _ _ _ _ _ _ _ _ hi => it_0 hi
          | succ n ih_57 =>
            intro x6_57 x7_57 H locs hP hD hS ls hl hi
            obtain ⟨b_57, hsh, hB1_57, hB2_57⟩ := it_b hi
            replace hsh : shX7_wordAt_L57 a1 w_tape w_words x4_5 x5_k5_52 x6_57 x7_57 = some b_57 := hsh
            unfold shX7_wordAt_L57 at hsh
            have Jk57_96 : ∀ (s0_k57_96 : Int32) (H : Heap) (locs : List Loc), va_P D vwCl (wdX7_wordAt cI cJ cZ q_this q_tape q_prior q_pipesIn q_pipe q_met q_chance q_rock q_people q_bad q_well q_ends q_runs q_way q_words q_told q_weight q_days q_depth q_bestDepth q_hopes q_planOf q_planDepth v_tapeSize v_thrown v_salt v_dry v_rest v_fault v_faultPlace v_rocks v_villages v_day v_at v_allPipes v_end v_next v_kind v_which v_place v_isPlan v_planMany v_planPipes v_planDays w_tape w_words) H → va_D A (wdX7_wordAt cI cJ cZ q_this q_tape q_prior q_pipesIn q_pipe q_met q_chance q_rock q_people q_bad q_well q_ends q_runs q_way q_words q_told q_weight q_days q_depth q_bestDepth q_hopes q_planOf q_planDepth v_tapeSize v_thrown v_salt v_dry v_rest v_fault v_faultPlace v_rocks v_villages v_day v_at v_allPipes v_end v_next v_kind v_which v_place v_isPlan v_planMany v_planPipes v_planDays w_tape w_words) → va_S A s.heap H locs → ∀ ls : Array Slot, lv_has ls 8 [(0, .ref q_this), (1, .int a1), (2, .int a2), (3, .int x3_5), (4, .int x4_5), (5, .int x5_k5_52), (7, .int x7_57)] → shX7_wordAt_k57_96 x7_57 s0_k57_96 = some b_57 → W p l e rmX7_wordAt s m args below meth c H locs 0 0 Q (F0 m 96 ls [.int s0_k57_96]) := by
              intro s0_k57_96 H locs hP hD hS ls hl hsh
              unfold shX7_wordAt_k57_96 at hsh
              refine lv_istore (lv' := [(6, .int s0_k57_96), (0, .ref q_this), (1, .int a1), (2, .int a2), (3, .int x3_5), (4, .int x4_5), (5, .int x5_k5_52), (7, .int x7_57)]) hx hb dX7_wordAt_96 hl (by decide) rfl (fun ls hl => ?_)
              refine lv_iinc (v := (x7_57 + (1 : Int32))) (lv' := [(7, .int (x7_57 + (1 : Int32))), (6, .int s0_k57_96), (0, .ref q_this), (1, .int a1), (2, .int a2), (3, .int x3_5), (4, .int x4_5), (5, .int x5_k5_52)]) hx hb dX7_wordAt_98 hl (k := 7) rfl (congrArg (fun z : Int32 => x7_57 + z) (by decide)) (by decide) rfl (fun ls hl => ?_)
              refine lv_goto (tgt := 57) hx hb dX7_wordAt_101 (by decide) ?_
              exact ih_57 s0_k57_96 (x7_57 + (1 : Int32)) H locs hP hD hS ls (lv_sub hl [2, 3, 4, 5, 6, 7, 1, 0] rfl) (hB1_57 _ hsh)
            refine lv_iload hx hb dX7_wordAt_57 (lv_at hl 7 rfl) ?_
            refine lv_iload hx hb dX7_wordAt_59 (lv_at hl 5 rfl) ?_
            refine lv_icmp_ge (tgt := 104) hx hb dX7_wordAt_61 (by decide) (fun c1 => ?_) (fun c1 => ?_)
            · skip
              have hsh := ite_t hsh c1
              have he := hB2_57 _ hsh
              rw [← he] at hk_57
              exact Jk5_104 x5_k5_52 x6_57 H locs hP hD hS ls (lv_sub hl [0, 1, 2, 3, 4, 5, 6] rfl) hk_57
            · skip
              have hsh := ite_f hsh c1
              refine lv_iload hx hb dX7_wordAt_64 (lv_at hl 6 rfl) ?_
              refine lv_if_eq (tgt := 104) hx hb dX7_wordAt_66 (by decide) (fun c1 => ?_) (fun c1 => ?_)
              · skip
                have hsh := ite_t hsh c1
                have he := hB2_57 _ hsh
                rw [← he] at hk_57
                exact Jk5_104 x5_k5_52 x6_57 H locs hP hD hS ls (lv_sub hl [0, 1, 2, 3, 4, 5, 6] rfl) hk_57
              · skip
                have hsh := ite_f hsh c1
                refine lv_aload_n hx hb dX7_wordAt_69 rfl (lv_at hl 0 rfl) ?_
                refine kget (ci := 7) S hK hP rfl inX7_wordAt_X7 0 rfl 25 (by decide) lkX7_wordAt_60 rfl dX7_wordAt_70 ?_
                refine lv_iload hx hb dX7_wordAt_73 (lv_at hl 4 rfl) ?_
                refine lv_iload hx hb dX7_wordAt_75 (lv_at hl 7 rfl) ?_
                refine lv_iadd hx hb dX7_wordAt_77 ?_
                obtain ⟨_, hg, hsh⟩ := bd hsh
                refine kial S hK hP 2 0 rfl rfl (gd_in hg) dX7_wordAt_78 ?_
                refine lv_aload_n hx hb dX7_wordAt_79 rfl (lv_at hl 0 rfl) ?_
                refine kget (ci := 7) S hK hP rfl inX7_wordAt_X7 0 rfl 0 (by decide) lkX7_wordAt_7 rfl dX7_wordAt_80 ?_
                refine lv_iload_n hx hb dX7_wordAt_83 rfl (lv_at hl 1 rfl) ?_
                refine lv_iload hx hb dX7_wordAt_84 (lv_at hl 7 rfl) ?_
                refine lv_iadd hx hb dX7_wordAt_86 ?_
                obtain ⟨_, hg, hsh⟩ := bd hsh
                refine kial S hK hP 1 0 rfl rfl (gd_in hg) dX7_wordAt_87 ?_
                refine lv_icmp_ne (tgt := 95) hx hb dX7_wordAt_88 (by decide) (fun c1 => ?_) (fun c1 => ?_)
                · skip
                  have hsh := ite_t hsh c1
                  refine lv_iconst (v := (0 : Int32)) hx hb dX7_wordAt_95 (by decide) ?_
                  exact Jk57_96 (0 : Int32) H locs hP hD hS ls (lv_sub hl [0, 1, 2, 3, 4, 5, 7] rfl) hsh
                · skip
                  have hsh := ite_f hsh (fun h => h c1)
                  refine lv_iconst (v := (1 : Int32)) hx hb dX7_wordAt_91 (by decide) ?_
                  refine lv_goto (tgt := 96) hx hb dX7_wordAt_92 (by decide) ?_
                  exact Jk57_96 (1 : Int32) H locs hP hD hS ls (lv_sub hl [0, 1, 2, 3, 4, 5, 7] rfl) hsh
        exact L_57 n_57 s0_k5_52 (0 : Int32) H locs hP hD hS ls (lv_sub hl [2, 3, 4, 5, 6, 7, 1, 0] rfl) hn_57
      have Jk5_39 : ∀ (x5_k5_39 : Int32) (H : Heap) (locs : List Loc), va_P D vwCl (wdX7_wordAt cI cJ cZ q_this q_tape q_prior q_pipesIn q_pipe q_met q_chance q_rock q_people q_bad q_well q_ends q_runs q_way q_words q_told q_weight q_days q_depth q_bestDepth q_hopes q_planOf q_planDepth v_tapeSize v_thrown v_salt v_dry v_rest v_fault v_faultPlace v_rocks v_villages v_day v_at v_allPipes v_end v_next v_kind v_which v_place v_isPlan v_planMany v_planPipes v_planDays w_tape w_words) H → va_D A (wdX7_wordAt cI cJ cZ q_this q_tape q_prior q_pipesIn q_pipe q_met q_chance q_rock q_people q_bad q_well q_ends q_runs q_way q_words q_told q_weight q_days q_depth q_bestDepth q_hopes q_planOf q_planDepth v_tapeSize v_thrown v_salt v_dry v_rest v_fault v_faultPlace v_rocks v_villages v_day v_at v_allPipes v_end v_next v_kind v_which v_place v_isPlan v_planMany v_planPipes v_planDays w_tape w_words) → va_S A s.heap H locs → ∀ ls : Array Slot, lv_has ls 8 [(0, .ref q_this), (1, .int a1), (2, .int a2), (3, .int x3_5), (4, .int x4_5), (5, .int x5_k5_39)] → shX7_wordAt_k5_39 a1 a2 w_tape w_words x3_5 x4_5 x5_k5_39 = some b_5 → W p l e rmX7_wordAt s m args below meth c H locs 0 0 Q (F0 m 39 ls []) := by
        intro x5_k5_39 H locs hP hD hS ls hl hsh
        unfold shX7_wordAt_k5_39 at hsh
        refine lv_iload hx hb dX7_wordAt_39 (lv_at hl 5 rfl) ?_
        refine lv_iload_n hx hb dX7_wordAt_41 rfl (lv_at hl 2 rfl) ?_
        refine lv_iload_n hx hb dX7_wordAt_42 rfl (lv_at hl 1 rfl) ?_
        refine lv_isub hx hb dX7_wordAt_43 ?_
        refine lv_icmp_ne (tgt := 51) hx hb dX7_wordAt_44 (by decide) (fun c1 => ?_) (fun c1 => ?_)
        · skip
          have hsh := ite_t hsh c1
          refine lv_iconst (v := (0 : Int32)) hx hb dX7_wordAt_51 (by decide) ?_
          exact Jk5_52 (0 : Int32) x5_k5_39 H locs hP hD hS ls (lv_sub hl [0, 1, 2, 3, 4, 5] rfl) hsh
        · skip
          have hsh := ite_f hsh (fun h => h c1)
          refine lv_iconst (v := (1 : Int32)) hx hb dX7_wordAt_47 (by decide) ?_
          refine lv_goto (tgt := 52) hx hb dX7_wordAt_48 (by decide) ?_
          exact Jk5_52 (1 : Int32) x5_k5_39 H locs hP hD hS ls (lv_sub hl [0, 1, 2, 3, 4, 5] rfl) hsh
      refine lv_iload hx hb dX7_wordAt_5 (lv_at hl 4 rfl) ?_
      refine lv_aload_n hx hb dX7_wordAt_7 rfl (lv_at hl 0 rfl) ?_
      refine kget (ci := 7) S hK hP rfl inX7_wordAt_X7 0 rfl 25 (by decide) lkX7_wordAt_60 rfl dX7_wordAt_8 ?_
      refine va_alen hx hb hK hP 2 0 rfl rfl (v := (14 : Int32)) (show Int32.ofNat 14 = (14 : Int32) by decide) dX7_wordAt_11 ?_
      refine lv_icmp_ge (tgt := 126) hx hb dX7_wordAt_12 (by decide) (fun c1 => ?_) (fun c1 => ?_)
      · skip
        have hsh := ite_t hsh c1
        have he := hB2_5 _ hsh
        rw [← he] at hk_5
        have hk_5 := se_r hk_5
        exact Jj_126  H locs hP hD hS ls (lv_sub hl [] rfl) hk_5
      · skip
        have hsh := ite_f hsh c1
        refine lv_iconst (v := (0 : Int32)) hx hb dX7_wordAt_15 (by decide) ?_
        refine lv_istore (lv' := [(5, .int (0 : Int32)), (0, .ref q_this), (1, .int a1), (2, .int a2), (3, .int x3_5), (4, .int x4_5)]) hx hb dX7_wordAt_16 hl (by decide) rfl (fun ls hl => ?_)
        obtain ⟨r_18, hl_18, hk_18⟩ := bd hsh
        obtain ⟨n_18, hn_18⟩ := lp_iff.mp hl_18
        have L_18 : ∀ (n : Nat) (x5_18 : Int32) (H : Heap) (locs : List Loc), va_P D vwCl (wdX7_wordAt cI cJ cZ q_this q_tape q_prior q_pipesIn q_pipe q_met q_chance q_rock q_people q_bad q_well q_ends q_runs q_way q_words q_told q_weight q_days q_depth q_bestDepth q_hopes q_planOf q_planDepth v_tapeSize v_thrown v_salt v_dry v_rest v_fault v_faultPlace v_rocks v_villages v_day v_at v_allPipes v_end v_next v_kind v_which v_place v_isPlan v_planMany v_planPipes v_planDays w_tape w_words) H → va_D A (wdX7_wordAt cI cJ cZ q_this q_tape q_prior q_pipesIn q_pipe q_met q_chance q_rock q_people q_bad q_well q_ends q_runs q_way q_words q_told q_weight q_days q_depth q_bestDepth q_hopes q_planOf q_planDepth v_tapeSize v_thrown v_salt v_dry v_rest v_fault v_faultPlace v_rocks v_villages v_day v_at v_allPipes v_end v_next v_kind v_which v_place v_isPlan v_planMany v_planPipes v_planDays w_tape w_words) → va_S A s.heap H locs → ∀ ls : Array Slot, lv_has ls 8 [(0, .ref q_this), (1, .int a1), (2, .int a2), (3, .int x3_5), (4, .int x4_5), (5, .int x5_18)] → it (fun s : Int32 => shX7_wordAt_L18 w_words x4_5 s) n x5_18 = some r_18 → W p l e rmX7_wordAt s m args below meth c H locs 0 0 Q (F0 m 18 ls []) := by
          intro n
          induction n with
          | zero => exact fun _ _ _ _ _ _ _ _ hi => it_0 hi
          | succ n ih_18 =>
            intro x5_18 H locs hP hD hS ls hl hi
            obtain ⟨b_18, hsh, hB1_18, hB2_18⟩ := it_b hi
            replace hsh : shX7_wordAt_L18 w_words x4_5 x5_18 = some b_18 := hsh
            unfold shX7_wordAt_L18 at hsh
            refine lv_aload_n hx hb dX7_wordAt_18 rfl (lv_at hl 0 rfl) ?_
            refine kget (ci := 7) S hK hP rfl inX7_wordAt_X7 0 rfl 25 (by decide) lkX7_wordAt_60 rfl dX7_wordAt_19 ?_
            refine lv_iload hx hb dX7_wordAt_22 (lv_at hl 4 rfl) ?_
            refine lv_iload hx hb dX7_wordAt_24 (lv_at hl 5 rfl) ?_
            refine lv_iadd hx hb dX7_wordAt_26 ?_
            obtain ⟨_, hg, hsh⟩ := bd hsh
            refine kial S hK hP 2 0 rfl rfl (gd_in hg) dX7_wordAt_27 ?_
            refine lv_bipush (v := (32 : Int32)) hx hb dX7_wordAt_28 (by decide) ?_
            refine lv_icmp_eq (tgt := 39) hx hb dX7_wordAt_30 (by decide) (fun c1 => ?_) (fun c1 => ?_)
            · skip
              have hsh := ite_t hsh c1
              have he := hB2_18 _ hsh
              rw [← he] at hk_18
              exact Jk5_39 x5_18 H locs hP hD hS ls (lv_sub hl [0, 1, 2, 3, 4, 5] rfl) hk_18
            · skip
              have hsh := ite_f hsh c1
              refine lv_iinc (v := (x5_18 + (1 : Int32))) (lv' := [(5, .int (x5_18 + (1 : Int32))), (0, .ref q_this), (1, .int a1), (2, .int a2), (3, .int x3_5), (4, .int x4_5)]) hx hb dX7_wordAt_33 hl (k := 5) rfl (congrArg (fun z : Int32 => x5_18 + z) (by decide)) (by decide) rfl (fun ls hl => ?_)
              refine lv_goto (tgt := 18) hx hb dX7_wordAt_36 (by decide) ?_
              exact ih_18 (x5_18 + (1 : Int32)) H locs hP hD hS ls (lv_sub hl [1, 2, 3, 4, 5, 0] rfl) (hB1_18 _ hsh)
        exact L_18 n_18 (0 : Int32) H locs hP hD hS ls (lv_sub hl [1, 2, 3, 4, 5, 0] rfl) hn_18
  exact L_5 n_5 (0 : Int32) (0 : Int32) H locs hP hD hS ls (lv_sub hl [2, 3, 4, 1, 0] rfl) hn_5

/-! DryWellsModel.isSmall -/
noncomputable def shX7_isSmall (a1 : Int32) (v_end : Int32) (w_tape : Nat → Int32) : Option (Int32) :=
  (if v_end ≤ a1 then some (0 : Int32) else ((gd a1 200).bind fun _ => (if (w_tape (a1).toNatClampNeg) < (97 : Int32) then some (0 : Int32) else ((gd a1 200).bind fun _ => (if (122 : Int32) < (w_tape (a1).toNatClampNeg) then some (0 : Int32) else some (1 : Int32))))))
def wdX7_isSmall (cI cJ cZ : ClassId) (q_this q_tape q_prior q_pipesIn q_pipe q_met q_chance q_rock q_people q_bad q_well q_ends q_runs q_way q_words q_told q_weight q_days q_depth q_bestDepth q_hopes q_planOf q_planDepth : Nat) (v_tapeSize : Int32) (v_thrown : Int32) (v_salt : Int32) (v_dry : Int32) (v_rest : Int32) (v_fault : Int32) (v_faultPlace : Int32) (v_rocks : Int32) (v_villages : Int32) (v_day : Int32) (v_at : Int32) (v_allPipes : Int32) (v_end : Int32) (v_next : Int32) (v_kind : Int32) (v_which : Int32) (v_place : Int32) (v_isPlan : Int32) (v_planMany : Int32) (v_planPipes : Int32) (v_planDays : Int32) (w_tape : Nat → Int32) : va_W := [(q_this, .inr (7, [.ref q_tape, .int v_tapeSize, .int v_thrown, .int v_salt, .int v_dry, .int v_rest, .int v_fault, .int v_faultPlace, .int v_rocks, .ref q_prior, .ref q_pipesIn, .ref q_pipe, .ref q_met, .ref q_chance, .int v_villages, .ref q_rock, .ref q_people, .ref q_bad, .ref q_well, .ref q_ends, .ref q_runs, .ref q_way, .int v_day, .int v_at, .int v_allPipes, .ref q_words, .int v_end, .int v_next, .int v_kind, .int v_which, .int v_place, .ref q_told, .ref q_weight, .ref q_days, .ref q_depth, .ref q_bestDepth, .ref q_hopes, .int v_isPlan, .int v_planMany, .int v_planPipes, .int v_planDays, .ref q_planOf, .ref q_planDepth])), (q_tape, .inl (cI, 200, .inl w_tape))]
abbrev rmX7_isSmall : Room := { frames := 0, cells := 0, slots := 0, locals := 0 }
theorem inX7_isSmall_X7 : ∀ w ∈ u_ws RX7 TX7 43, w ∈ wsX7_isSmall := fun _ h => List.mem_cons_of_mem _ (List.mem_append_right _ h)
theorem lkX7_isSmall_97 : Cond.fieldLink RX7 97 (TX7 26).1 (TX7 26).2.1 (TX7 26).2.2.1 ∈ wsX7_isSmall := List.mem_of_getElem? (i := 1) rfl
theorem lkX7_isSmall_7 : Cond.fieldLink RX7 7 (TX7 0).1 (TX7 0).2.1 (TX7 0).2.2.1 ∈ wsX7_isSmall := List.mem_of_getElem? (i := 2) rfl
theorem hdX7_isSmall : yX7_isSmall.cls = RX7 ∧ yX7_isSmall.cls ≠ "java/lang/invoke/MethodHandle" ∧ yX7_isSmall.cls ≠ "java/lang/invoke/VarHandle" ∧ (parseMethodDescriptor yX7_isSmall.desc).map (fun d => d.parameters.length) = some 1 := by decide +kernel
set_option maxHeartbeats 4000000 in
set_option maxRecDepth 100000 in
theorem ctX7_isSmall (l : Launch) (D : va_G) (cI cJ cZ : ClassId) (q_this q_tape q_prior q_pipesIn q_pipe q_met q_chance q_rock q_people q_bad q_well q_ends q_runs q_way q_words q_told q_weight q_days q_depth q_bestDepth q_hopes q_planOf q_planDepth : Nat) (v_tapeSize : Int32) (v_thrown : Int32) (v_salt : Int32) (v_dry : Int32) (v_rest : Int32) (v_fault : Int32) (v_faultPlace : Int32) (v_rocks : Int32) (v_villages : Int32) (v_day : Int32) (v_at : Int32) (v_allPipes : Int32) (v_end : Int32) (v_next : Int32) (v_kind : Int32) (v_which : Int32) (v_place : Int32) (v_isPlan : Int32) (v_planMany : Int32) (v_planPipes : Int32) (v_planDays : Int32) (w_tape : Nat → Int32) (a1 : Int32) (o : Int32) (hsh : shX7_isSmall a1 v_end w_tape = some o) : CtI l yX7_isSmall wsX7_isSmall rmX7_isSmall D (tys3 cI cJ cZ) noE (wdX7_isSmall cI cJ cZ q_this q_tape q_prior q_pipesIn q_pipe q_met q_chance q_rock q_people q_bad q_well q_ends q_runs q_way q_words q_told q_weight q_days q_depth q_bestDepth q_hopes q_planOf q_planDepth v_tapeSize v_thrown v_salt v_dry v_rest v_fault v_faultPlace v_rocks v_villages v_day v_at v_allPipes v_end v_next v_kind v_which v_place v_isPlan v_planMany v_planPipes v_planDays w_tape) [.ref q_this, .int a1] o (wdX7_isSmall cI cJ cZ q_this q_tape q_prior q_pipesIn q_pipe q_met q_chance q_rock q_people q_bad q_well q_ends q_runs q_way q_words q_told q_weight q_days q_depth q_bestDepth q_hopes q_planOf q_planDepth v_tapeSize v_thrown v_salt v_dry v_rest v_fault v_faultPlace v_rocks v_villages v_day v_at v_allPipes v_end v_next v_kind v_which v_place v_isPlan v_planMany v_planPipes v_planDays w_tape) := by
  refine ctZ plX7 rfl (Nat.le_of_ble_eq_true rfl) ?_
  intro p e s m below meth c A Q S hK hA hE hret H locs hP hD hS ls hl
  replace S : CallFix p m c cX7_isSmall 2 s _ wsX7_isSmall RX7 := S
  generalize ([.ref q_this, .int a1] : List Value).toArray = args at S hret ⊢
  obtain ⟨hx, hb, hml, hown, hts⟩ := id S
  replace hl : lv_has ls 2 [(0, .ref q_this), (1, .int a1)] := hl
  unfold shX7_isSmall at hsh
  refine lv_iload_n hx hb dX7_isSmall_0 rfl (lv_at hl 1 rfl) ?_
  refine lv_aload_n hx hb dX7_isSmall_1 rfl (lv_at hl 0 rfl) ?_
  refine kget (ci := 7) S hK hP rfl inX7_isSmall_X7 0 rfl 26 (by decide) lkX7_isSmall_97 rfl dX7_isSmall_2 ?_
  refine lv_icmp_ge (tgt := 34) hx hb dX7_isSmall_5 (by decide) (fun c1 => ?_) (fun c1 => ?_)
  · skip
    have hsh := ite_t hsh c1
    refine lv_iconst (v := (0 : Int32)) hx hb dX7_isSmall_34 (by decide) ?_
    have ho := Option.some.inj hsh
    rw [← ho] at hret
    exact hret _ _ _ _ nar0 dX7_isSmall_35 hP hD hS
  · skip
    have hsh := ite_f hsh c1
    refine lv_aload_n hx hb dX7_isSmall_8 rfl (lv_at hl 0 rfl) ?_
    refine kget (ci := 7) S hK hP rfl inX7_isSmall_X7 0 rfl 0 (by decide) lkX7_isSmall_7 rfl dX7_isSmall_9 ?_
    refine lv_iload_n hx hb dX7_isSmall_12 rfl (lv_at hl 1 rfl) ?_
    obtain ⟨_, hg, hsh⟩ := bd hsh
    refine kial S hK hP 1 0 rfl rfl (gd_in hg) dX7_isSmall_13 ?_
    refine lv_bipush (v := (97 : Int32)) hx hb dX7_isSmall_14 (by decide) ?_
    refine lv_icmp_lt (tgt := 34) hx hb dX7_isSmall_16 (by decide) (fun c1 => ?_) (fun c1 => ?_)
    · skip
      have hsh := ite_t hsh c1
      refine lv_iconst (v := (0 : Int32)) hx hb dX7_isSmall_34 (by decide) ?_
      have ho := Option.some.inj hsh
      rw [← ho] at hret
      exact hret _ _ _ _ nar0 dX7_isSmall_35 hP hD hS
    · skip
      have hsh := ite_f hsh c1
      refine lv_aload_n hx hb dX7_isSmall_19 rfl (lv_at hl 0 rfl) ?_
      refine kget (ci := 7) S hK hP rfl inX7_isSmall_X7 0 rfl 0 (by decide) lkX7_isSmall_7 rfl dX7_isSmall_20 ?_
      refine lv_iload_n hx hb dX7_isSmall_23 rfl (lv_at hl 1 rfl) ?_
      obtain ⟨_, hg, hsh⟩ := bd hsh
      refine kial S hK hP 1 0 rfl rfl (gd_in hg) dX7_isSmall_24 ?_
      refine lv_bipush (v := (122 : Int32)) hx hb dX7_isSmall_25 (by decide) ?_
      refine lv_icmp_gt (tgt := 34) hx hb dX7_isSmall_27 (by decide) (fun c1 => ?_) (fun c1 => ?_)
      · skip
        have hsh := ite_t hsh c1
        refine lv_iconst (v := (0 : Int32)) hx hb dX7_isSmall_34 (by decide) ?_
        have ho := Option.some.inj hsh
        rw [← ho] at hret
        exact hret _ _ _ _ nar0 dX7_isSmall_35 hP hD hS
      · skip
        have hsh := ite_f hsh c1
        refine lv_iconst (v := (1 : Int32)) hx hb dX7_isSmall_30 (by decide) ?_
        refine lv_goto (tgt := 35) hx hb dX7_isSmall_31 (by decide) ?_
        have ho := Option.some.inj hsh
        rw [← ho] at hret
        exact hret _ _ _ _ nar1 dX7_isSmall_35 hP hD hS

/-! DryWellsModel.isDigit -/
noncomputable def shX7_isDigit (a1 : Int32) (v_end : Int32) (w_tape : Nat → Int32) : Option (Int32) :=
  (if v_end ≤ a1 then some (0 : Int32) else ((gd a1 200).bind fun _ => (if (w_tape (a1).toNatClampNeg) < (48 : Int32) then some (0 : Int32) else ((gd a1 200).bind fun _ => (if (57 : Int32) < (w_tape (a1).toNatClampNeg) then some (0 : Int32) else some (1 : Int32))))))
def wdX7_isDigit (cI cJ cZ : ClassId) (q_this q_tape q_prior q_pipesIn q_pipe q_met q_chance q_rock q_people q_bad q_well q_ends q_runs q_way q_words q_told q_weight q_days q_depth q_bestDepth q_hopes q_planOf q_planDepth : Nat) (v_tapeSize : Int32) (v_thrown : Int32) (v_salt : Int32) (v_dry : Int32) (v_rest : Int32) (v_fault : Int32) (v_faultPlace : Int32) (v_rocks : Int32) (v_villages : Int32) (v_day : Int32) (v_at : Int32) (v_allPipes : Int32) (v_end : Int32) (v_next : Int32) (v_kind : Int32) (v_which : Int32) (v_place : Int32) (v_isPlan : Int32) (v_planMany : Int32) (v_planPipes : Int32) (v_planDays : Int32) (w_tape : Nat → Int32) : va_W := [(q_this, .inr (7, [.ref q_tape, .int v_tapeSize, .int v_thrown, .int v_salt, .int v_dry, .int v_rest, .int v_fault, .int v_faultPlace, .int v_rocks, .ref q_prior, .ref q_pipesIn, .ref q_pipe, .ref q_met, .ref q_chance, .int v_villages, .ref q_rock, .ref q_people, .ref q_bad, .ref q_well, .ref q_ends, .ref q_runs, .ref q_way, .int v_day, .int v_at, .int v_allPipes, .ref q_words, .int v_end, .int v_next, .int v_kind, .int v_which, .int v_place, .ref q_told, .ref q_weight, .ref q_days, .ref q_depth, .ref q_bestDepth, .ref q_hopes, .int v_isPlan, .int v_planMany, .int v_planPipes, .int v_planDays, .ref q_planOf, .ref q_planDepth])), (q_tape, .inl (cI, 200, .inl w_tape))]
abbrev rmX7_isDigit : Room := { frames := 0, cells := 0, slots := 0, locals := 0 }
theorem inX7_isDigit_X7 : ∀ w ∈ u_ws RX7 TX7 43, w ∈ wsX7_isDigit := fun _ h => List.mem_cons_of_mem _ (List.mem_append_right _ h)
theorem lkX7_isDigit_97 : Cond.fieldLink RX7 97 (TX7 26).1 (TX7 26).2.1 (TX7 26).2.2.1 ∈ wsX7_isDigit := List.mem_of_getElem? (i := 1) rfl
theorem lkX7_isDigit_7 : Cond.fieldLink RX7 7 (TX7 0).1 (TX7 0).2.1 (TX7 0).2.2.1 ∈ wsX7_isDigit := List.mem_of_getElem? (i := 2) rfl
theorem hdX7_isDigit : yX7_isDigit.cls = RX7 ∧ yX7_isDigit.cls ≠ "java/lang/invoke/MethodHandle" ∧ yX7_isDigit.cls ≠ "java/lang/invoke/VarHandle" ∧ (parseMethodDescriptor yX7_isDigit.desc).map (fun d => d.parameters.length) = some 1 := by decide +kernel
set_option maxHeartbeats 4000000 in
set_option maxRecDepth 100000 in
theorem ctX7_isDigit (l : Launch) (D : va_G) (cI cJ cZ : ClassId) (q_this q_tape q_prior q_pipesIn q_pipe q_met q_chance q_rock q_people q_bad q_well q_ends q_runs q_way q_words q_told q_weight q_days q_depth q_bestDepth q_hopes q_planOf q_planDepth : Nat) (v_tapeSize : Int32) (v_thrown : Int32) (v_salt : Int32) (v_dry : Int32) (v_rest : Int32) (v_fault : Int32) (v_faultPlace : Int32) (v_rocks : Int32) (v_villages : Int32) (v_day : Int32) (v_at : Int32) (v_allPipes : Int32) (v_end : Int32) (v_next : Int32) (v_kind : Int32) (v_which : Int32) (v_place : Int32) (v_isPlan : Int32) (v_planMany : Int32) (v_planPipes : Int32) (v_planDays : Int32) (w_tape : Nat → Int32) (a1 : Int32) (o : Int32) (hsh : shX7_isDigit a1 v_end w_tape = some o) : CtI l yX7_isDigit wsX7_isDigit rmX7_isDigit D (tys3 cI cJ cZ) noE (wdX7_isDigit cI cJ cZ q_this q_tape q_prior q_pipesIn q_pipe q_met q_chance q_rock q_people q_bad q_well q_ends q_runs q_way q_words q_told q_weight q_days q_depth q_bestDepth q_hopes q_planOf q_planDepth v_tapeSize v_thrown v_salt v_dry v_rest v_fault v_faultPlace v_rocks v_villages v_day v_at v_allPipes v_end v_next v_kind v_which v_place v_isPlan v_planMany v_planPipes v_planDays w_tape) [.ref q_this, .int a1] o (wdX7_isDigit cI cJ cZ q_this q_tape q_prior q_pipesIn q_pipe q_met q_chance q_rock q_people q_bad q_well q_ends q_runs q_way q_words q_told q_weight q_days q_depth q_bestDepth q_hopes q_planOf q_planDepth v_tapeSize v_thrown v_salt v_dry v_rest v_fault v_faultPlace v_rocks v_villages v_day v_at v_allPipes v_end v_next v_kind v_which v_place v_isPlan v_planMany v_planPipes v_planDays w_tape) := by
  refine ctZ plX7 rfl (Nat.le_of_ble_eq_true rfl) ?_
  intro p e s m below meth c A Q S hK hA hE hret H locs hP hD hS ls hl
  replace S : CallFix p m c cX7_isDigit 2 s _ wsX7_isDigit RX7 := S
  generalize ([.ref q_this, .int a1] : List Value).toArray = args at S hret ⊢
  obtain ⟨hx, hb, hml, hown, hts⟩ := id S
  replace hl : lv_has ls 2 [(0, .ref q_this), (1, .int a1)] := hl
  unfold shX7_isDigit at hsh
  refine lv_iload_n hx hb dX7_isDigit_0 rfl (lv_at hl 1 rfl) ?_
  refine lv_aload_n hx hb dX7_isDigit_1 rfl (lv_at hl 0 rfl) ?_
  refine kget (ci := 7) S hK hP rfl inX7_isDigit_X7 0 rfl 26 (by decide) lkX7_isDigit_97 rfl dX7_isDigit_2 ?_
  refine lv_icmp_ge (tgt := 34) hx hb dX7_isDigit_5 (by decide) (fun c1 => ?_) (fun c1 => ?_)
  · skip
    have hsh := ite_t hsh c1
    refine lv_iconst (v := (0 : Int32)) hx hb dX7_isDigit_34 (by decide) ?_
    have ho := Option.some.inj hsh
    rw [← ho] at hret
    exact hret _ _ _ _ nar0 dX7_isDigit_35 hP hD hS
  · skip
    have hsh := ite_f hsh c1
    refine lv_aload_n hx hb dX7_isDigit_8 rfl (lv_at hl 0 rfl) ?_
    refine kget (ci := 7) S hK hP rfl inX7_isDigit_X7 0 rfl 0 (by decide) lkX7_isDigit_7 rfl dX7_isDigit_9 ?_
    refine lv_iload_n hx hb dX7_isDigit_12 rfl (lv_at hl 1 rfl) ?_
    obtain ⟨_, hg, hsh⟩ := bd hsh
    refine kial S hK hP 1 0 rfl rfl (gd_in hg) dX7_isDigit_13 ?_
    refine lv_bipush (v := (48 : Int32)) hx hb dX7_isDigit_14 (by decide) ?_
    refine lv_icmp_lt (tgt := 34) hx hb dX7_isDigit_16 (by decide) (fun c1 => ?_) (fun c1 => ?_)
    · skip
      have hsh := ite_t hsh c1
      refine lv_iconst (v := (0 : Int32)) hx hb dX7_isDigit_34 (by decide) ?_
      have ho := Option.some.inj hsh
      rw [← ho] at hret
      exact hret _ _ _ _ nar0 dX7_isDigit_35 hP hD hS
    · skip
      have hsh := ite_f hsh c1
      refine lv_aload_n hx hb dX7_isDigit_19 rfl (lv_at hl 0 rfl) ?_
      refine kget (ci := 7) S hK hP rfl inX7_isDigit_X7 0 rfl 0 (by decide) lkX7_isDigit_7 rfl dX7_isDigit_20 ?_
      refine lv_iload_n hx hb dX7_isDigit_23 rfl (lv_at hl 1 rfl) ?_
      obtain ⟨_, hg, hsh⟩ := bd hsh
      refine kial S hK hP 1 0 rfl rfl (gd_in hg) dX7_isDigit_24 ?_
      refine lv_bipush (v := (57 : Int32)) hx hb dX7_isDigit_25 (by decide) ?_
      refine lv_icmp_gt (tgt := 34) hx hb dX7_isDigit_27 (by decide) (fun c1 => ?_) (fun c1 => ?_)
      · skip
        have hsh := ite_t hsh c1
        refine lv_iconst (v := (0 : Int32)) hx hb dX7_isDigit_34 (by decide) ?_
        have ho := Option.some.inj hsh
        rw [← ho] at hret
        exact hret _ _ _ _ nar0 dX7_isDigit_35 hP hD hS
      · skip
        have hsh := ite_f hsh c1
        refine lv_iconst (v := (1 : Int32)) hx hb dX7_isDigit_30 (by decide) ?_
        refine lv_goto (tgt := 35) hx hb dX7_isDigit_31 (by decide) ?_
        have ho := Option.some.inj hsh
        rw [← ho] at hret
        exact hret _ _ _ _ nar1 dX7_isDigit_35 hP hD hS

/-! DryWellsModel.take -/
noncomputable def shX7_take_j_255 (v_which : Int32) (s1_j_255 : Int32) (v_next_j_255 : Int32) (v_place_j_255 : Int32) : Option (Int32 × Int32 × Int32 × Int32) :=
  some ((v_next_j_255 + (1 : Int32)), s1_j_255, v_which, v_place_j_255)
noncomputable def shX7_take_j_268 (v_next_j_268 : Int32) (v_kind_j_268 : Int32) (v_which_j_268 : Int32) (v_place_j_268 : Int32) : Option (Int32 × Int32 × Int32 × Int32) :=
  some (v_next_j_268, v_kind_j_268, v_which_j_268, v_place_j_268)
noncomputable def shX7_take_k170_219 (v_next_170 : Int32) (s1_k170_219 : Int32) : Option ((Int32 × Int32) ⊕ ((Int32 × Int32))) :=
  some (Sum.inl ((v_next_170 + (1 : Int32)), s1_k170_219))
noncomputable def shX7_take_L170 (v_end : Int32) (w_tape : Nat → Int32) (v_next_170 : Int32) (v_which_170 : Int32) : Option ((Int32 × Int32) ⊕ ((Int32 × Int32))) :=
  ((shX7_isDigit v_next_170 v_end w_tape).bind fun o_175 => (if o_175 = 0 then some (Sum.inr (v_next_170, v_which_170)) else (if v_which_170 ≤ (9999 : Int32) then ((gd v_next_170 200).bind fun _ => (shX7_take_k170_219 v_next_170 ((((10 : Int32) * v_which_170) + (w_tape (v_next_170).toNatClampNeg)) - (48 : Int32)))) else (shX7_take_k170_219 v_next_170 v_which_170))))
noncomputable def shX7_take_j_143 (s1_j_143 : Int32) (v_next_j_143 : Int32) (v_which_j_143 : Int32) (v_place_j_143 : Int32) : Option (Int32 × Int32 × Int32 × Int32) :=
  some (v_next_j_143, s1_j_143, v_which_j_143, v_place_j_143)
noncomputable def shX7_take_j_114 (w_tape : Nat → Int32) (w_words : Nat → Int32) (v_next_j_114 : Int32) (v_place_j_114 : Int32) : Option (Int32 × Int32 × Int32 × Int32) :=
  ((shX7_wordAt v_place_j_114 v_next_j_114 w_tape w_words).bind fun o_124 => (if 0 ≤ o_124 then (shX7_take_j_143 (1 : Int32) v_next_j_114 o_124 v_place_j_114) else (shX7_take_j_143 (4 : Int32) v_next_j_114 o_124 v_place_j_114)))
noncomputable def shX7_take_L90 (v_end : Int32) (w_tape : Nat → Int32) (v_next_90 : Int32) : Option ((Int32) ⊕ ((Int32))) :=
  ((shX7_isSmall v_next_90 v_end w_tape).bind fun o_95 => (if o_95 = 0 then some (Sum.inr v_next_90) else some (Sum.inl (v_next_90 + (1 : Int32)))))
noncomputable def shX7_take_j_52 (v_end : Int32) (v_which : Int32) (w_tape : Nat → Int32) (w_words : Nat → Int32) (v_next_j_52 : Int32) : Option (Int32 × Int32 × Int32 × Int32) :=
  (if ¬ v_next_j_52 = v_end then ((shX7_isSmall v_next_j_52 v_end w_tape).bind fun o_84 => (if o_84 = 0 then ((shX7_isDigit v_next_j_52 v_end w_tape).bind fun o_154 => (if o_154 = 0 then ((gd v_next_j_52 200).bind fun _ => (if ¬ (w_tape (v_next_j_52).toNatClampNeg) = (59 : Int32) then (shX7_take_j_255 v_which (4 : Int32) v_next_j_52 v_next_j_52) else (shX7_take_j_255 v_which (3 : Int32) v_next_j_52 v_next_j_52))) else ((lp (fun s : Int32 × Int32 => shX7_take_L170 v_end w_tape s.1 s.2) (v_next_j_52, (0 : Int32))).bind (fun p : Int32 × Int32 => shX7_take_j_268 p.1 (2 : Int32) p.2 v_next_j_52)))) else ((lp (fun s : Int32 => shX7_take_L90 v_end w_tape s) v_next_j_52).bind (fun p : Int32 => shX7_take_j_114 w_tape w_words p v_next_j_52)))) else some (v_next_j_52, (0 : Int32), v_which, v_next_j_52))
noncomputable def shX7_take_k0_39 (v_next_0 : Int32) : Option ((Int32) ⊕ ((Int32))) :=
  some (Sum.inl (v_next_0 + (1 : Int32)))
noncomputable def shX7_take_L0 (v_end : Int32) (w_tape : Nat → Int32) (v_next_0 : Int32) : Option ((Int32) ⊕ ((Int32))) :=
  (if v_end ≤ v_next_0 then some (Sum.inr v_next_0) else ((gd v_next_0 200).bind fun _ => (if (w_tape (v_next_0).toNatClampNeg) = (10 : Int32) then (shX7_take_k0_39 v_next_0) else ((gd v_next_0 200).bind fun _ => (if ¬ (w_tape (v_next_0).toNatClampNeg) = (32 : Int32) then some (Sum.inr v_next_0) else (shX7_take_k0_39 v_next_0))))))
noncomputable def shX7_take (v_end : Int32) (v_next : Int32) (v_kind : Int32) (v_which : Int32) (v_place : Int32) (w_tape : Nat → Int32) (w_words : Nat → Int32) : Option (Int32 × Int32 × Int32 × Int32) :=
  ((lp (fun s : Int32 => shX7_take_L0 v_end w_tape s) v_next).bind (fun p : Int32 => shX7_take_j_52 v_end v_which w_tape w_words p))
def wdX7_take (cI cJ cZ : ClassId) (q_this q_tape q_prior q_pipesIn q_pipe q_met q_chance q_rock q_people q_bad q_well q_ends q_runs q_way q_words q_told q_weight q_days q_depth q_bestDepth q_hopes q_planOf q_planDepth : Nat) (v_tapeSize : Int32) (v_thrown : Int32) (v_salt : Int32) (v_dry : Int32) (v_rest : Int32) (v_fault : Int32) (v_faultPlace : Int32) (v_rocks : Int32) (v_villages : Int32) (v_day : Int32) (v_at : Int32) (v_allPipes : Int32) (v_end : Int32) (v_next : Int32) (v_kind : Int32) (v_which : Int32) (v_place : Int32) (v_isPlan : Int32) (v_planMany : Int32) (v_planPipes : Int32) (v_planDays : Int32) (w_tape : Nat → Int32) (w_words : Nat → Int32) : va_W := [(q_this, .inr (7, [.ref q_tape, .int v_tapeSize, .int v_thrown, .int v_salt, .int v_dry, .int v_rest, .int v_fault, .int v_faultPlace, .int v_rocks, .ref q_prior, .ref q_pipesIn, .ref q_pipe, .ref q_met, .ref q_chance, .int v_villages, .ref q_rock, .ref q_people, .ref q_bad, .ref q_well, .ref q_ends, .ref q_runs, .ref q_way, .int v_day, .int v_at, .int v_allPipes, .ref q_words, .int v_end, .int v_next, .int v_kind, .int v_which, .int v_place, .ref q_told, .ref q_weight, .ref q_days, .ref q_depth, .ref q_bestDepth, .ref q_hopes, .int v_isPlan, .int v_planMany, .int v_planPipes, .int v_planDays, .ref q_planOf, .ref q_planDepth])), (q_tape, .inl (cI, 200, .inl w_tape)), (q_words, .inl (cI, 14, .inl w_words))]
abbrev rmX7_take : Room := { frames := 1, cells := 0, slots := 0, locals := 27 }
theorem inX7_take_X7 : ∀ w ∈ u_ws RX7 TX7 43, w ∈ wsX7_take := fun _ h => List.mem_cons_of_mem _ (List.mem_append_right _ h)
theorem lkX7_take_100 : Cond.fieldLink RX7 100 (TX7 27).1 (TX7 27).2.1 (TX7 27).2.2.1 ∈ wsX7_take := List.mem_of_getElem? (i := 1) rfl
theorem lkX7_take_103 : Cond.fieldLink RX7 103 (TX7 30).1 (TX7 30).2.1 (TX7 30).2.2.1 ∈ wsX7_take := List.mem_of_getElem? (i := 4) rfl
theorem lkX7_take_97 : Cond.fieldLink RX7 97 (TX7 26).1 (TX7 26).2.1 (TX7 26).2.2.1 ∈ wsX7_take := List.mem_of_getElem? (i := 2) rfl
theorem lkX7_take_7 : Cond.fieldLink RX7 7 (TX7 0).1 (TX7 0).2.1 (TX7 0).2.2.1 ∈ wsX7_take := List.mem_of_getElem? (i := 3) rfl
theorem lkX7_take_106 : Cond.fieldLink RX7 106 (TX7 28).1 (TX7 28).2.1 (TX7 28).2.2.1 ∈ wsX7_take := List.mem_of_getElem? (i := 5) rfl
theorem lkX7_take_117 : Cond.fieldLink RX7 117 (TX7 29).1 (TX7 29).2.1 (TX7 29).2.2.1 ∈ wsX7_take := List.mem_of_getElem? (i := 6) rfl
theorem hdX7_take : yX7_take.cls = RX7 ∧ yX7_take.cls ≠ "java/lang/invoke/MethodHandle" ∧ yX7_take.cls ≠ "java/lang/invoke/VarHandle" ∧ (parseMethodDescriptor yX7_take.desc).map (fun d => d.parameters.length) = some 0 := by decide +kernel
set_option maxHeartbeats 4000000 in
set_option maxRecDepth 100000 in
theorem ctX7_take (l : Launch) (D : va_G) (cI cJ cZ : ClassId) (q_this q_tape q_prior q_pipesIn q_pipe q_met q_chance q_rock q_people q_bad q_well q_ends q_runs q_way q_words q_told q_weight q_days q_depth q_bestDepth q_hopes q_planOf q_planDepth : Nat) (v_tapeSize : Int32) (v_thrown : Int32) (v_salt : Int32) (v_dry : Int32) (v_rest : Int32) (v_fault : Int32) (v_faultPlace : Int32) (v_rocks : Int32) (v_villages : Int32) (v_day : Int32) (v_at : Int32) (v_allPipes : Int32) (v_end : Int32) (v_next : Int32) (v_kind : Int32) (v_which : Int32) (v_place : Int32) (v_isPlan : Int32) (v_planMany : Int32) (v_planPipes : Int32) (v_planDays : Int32) (w_tape : Nat → Int32) (w_words : Nat → Int32)  (o : Int32 × Int32 × Int32 × Int32) (hsh : shX7_take v_end v_next v_kind v_which v_place w_tape w_words = some o) : CtV l yX7_take wsX7_take rmX7_take D (tys3 cI cJ cZ) noE (wdX7_take cI cJ cZ q_this q_tape q_prior q_pipesIn q_pipe q_met q_chance q_rock q_people q_bad q_well q_ends q_runs q_way q_words q_told q_weight q_days q_depth q_bestDepth q_hopes q_planOf q_planDepth v_tapeSize v_thrown v_salt v_dry v_rest v_fault v_faultPlace v_rocks v_villages v_day v_at v_allPipes v_end v_next v_kind v_which v_place v_isPlan v_planMany v_planPipes v_planDays w_tape w_words) [.ref q_this]  (wdX7_take cI cJ cZ q_this q_tape q_prior q_pipesIn q_pipe q_met q_chance q_rock q_people q_bad q_well q_ends q_runs q_way q_words q_told q_weight q_days q_depth q_bestDepth q_hopes q_planOf q_planDepth v_tapeSize v_thrown v_salt v_dry v_rest v_fault v_faultPlace v_rocks v_villages v_day v_at v_allPipes v_end o.1 o.2.1 o.2.2.1 o.2.2.2 v_isPlan v_planMany v_planPipes v_planDays w_tape w_words) := by
  refine ctV plX7 rfl (Nat.le_of_ble_eq_true rfl) ?_
  intro p e s m below meth c A Q S hK hA hE hret H locs hP hD hS ls hl
  replace S : CallFix p m c cX7_take 1 s _ wsX7_take RX7 := S
  generalize ([.ref q_this] : List Value).toArray = args at S hret ⊢
  obtain ⟨hx, hb, hml, hown, hts⟩ := id S
  replace hl : lv_has ls 1 [(0, .ref q_this)] := hl
  unfold shX7_take at hsh
  have Jj_255 : ∀ (s1_j_255 : Int32) (v_next_j_255 : Int32) (v_place_j_255 : Int32) (H : Heap) (locs : List Loc), va_P D vwCl (wdX7_take cI cJ cZ q_this q_tape q_prior q_pipesIn q_pipe q_met q_chance q_rock q_people q_bad q_well q_ends q_runs q_way q_words q_told q_weight q_days q_depth q_bestDepth q_hopes q_planOf q_planDepth v_tapeSize v_thrown v_salt v_dry v_rest v_fault v_faultPlace v_rocks v_villages v_day v_at v_allPipes v_end v_next_j_255 v_kind v_which v_place_j_255 v_isPlan v_planMany v_planPipes v_planDays w_tape w_words) H → va_D A (wdX7_take cI cJ cZ q_this q_tape q_prior q_pipesIn q_pipe q_met q_chance q_rock q_people q_bad q_well q_ends q_runs q_way q_words q_told q_weight q_days q_depth q_bestDepth q_hopes q_planOf q_planDepth v_tapeSize v_thrown v_salt v_dry v_rest v_fault v_faultPlace v_rocks v_villages v_day v_at v_allPipes v_end v_next_j_255 v_kind v_which v_place_j_255 v_isPlan v_planMany v_planPipes v_planDays w_tape w_words) → va_S A s.heap H locs → ∀ ls : Array Slot, lv_has ls 1 [(0, .ref q_this)] → shX7_take_j_255 v_which s1_j_255 v_next_j_255 v_place_j_255 = some o → W p l e rmX7_take s m args below meth c H locs 0 0 Q (F0 m 255 ls [.int s1_j_255, .ref q_this]) := by
    intro s1_j_255 v_next_j_255 v_place_j_255 H locs hP hD hS ls hl hsh
    unfold shX7_take_j_255 at hsh
    refine kput (ci := 7) S hK hP hD hS rfl inX7_take_X7 tyX7_ok nmX7 0 rfl 28 (by decide) lkX7_take_106 rfl rfl rfl (Nat.le_of_ble_eq_true rfl) (ws' := (wdX7_take cI cJ cZ q_this q_tape q_prior q_pipesIn q_pipe q_met q_chance q_rock q_people q_bad q_well q_ends q_runs q_way q_words q_told q_weight q_days q_depth q_bestDepth q_hopes q_planOf q_planDepth v_tapeSize v_thrown v_salt v_dry v_rest v_fault v_faultPlace v_rocks v_villages v_day v_at v_allPipes v_end v_next_j_255 s1_j_255 v_which v_place_j_255 v_isPlan v_planMany v_planPipes v_planDays w_tape w_words)) rfl dX7_take_255 (fun H locs hP hD hS => ?_)
    refine lv_aload_n hx hb dX7_take_258 rfl (lv_at hl 0 rfl) ?_
    refine lv_dup hx hb dX7_take_259 rfl ?_
    refine kget (ci := 7) S hK hP rfl inX7_take_X7 0 rfl 27 (by decide) lkX7_take_100 rfl dX7_take_260 ?_
    refine lv_iconst (v := (1 : Int32)) hx hb dX7_take_263 (by decide) ?_
    refine lv_iadd hx hb dX7_take_264 ?_
    refine kput (ci := 7) S hK hP hD hS rfl inX7_take_X7 tyX7_ok nmX7 0 rfl 27 (by decide) lkX7_take_100 rfl rfl rfl (Nat.le_of_ble_eq_true rfl) (ws' := (wdX7_take cI cJ cZ q_this q_tape q_prior q_pipesIn q_pipe q_met q_chance q_rock q_people q_bad q_well q_ends q_runs q_way q_words q_told q_weight q_days q_depth q_bestDepth q_hopes q_planOf q_planDepth v_tapeSize v_thrown v_salt v_dry v_rest v_fault v_faultPlace v_rocks v_villages v_day v_at v_allPipes v_end (v_next_j_255 + (1 : Int32)) s1_j_255 v_which v_place_j_255 v_isPlan v_planMany v_planPipes v_planDays w_tape w_words)) rfl dX7_take_265 (fun H locs hP hD hS => ?_)
    have ho := Option.some.inj hsh
    rw [← ho] at hret
    exact hret _ _ _ _ dX7_take_268 hP hD hS
  have Jj_268 : ∀ (v_next_j_268 : Int32) (v_kind_j_268 : Int32) (v_which_j_268 : Int32) (v_place_j_268 : Int32) (H : Heap) (locs : List Loc), va_P D vwCl (wdX7_take cI cJ cZ q_this q_tape q_prior q_pipesIn q_pipe q_met q_chance q_rock q_people q_bad q_well q_ends q_runs q_way q_words q_told q_weight q_days q_depth q_bestDepth q_hopes q_planOf q_planDepth v_tapeSize v_thrown v_salt v_dry v_rest v_fault v_faultPlace v_rocks v_villages v_day v_at v_allPipes v_end v_next_j_268 v_kind_j_268 v_which_j_268 v_place_j_268 v_isPlan v_planMany v_planPipes v_planDays w_tape w_words) H → va_D A (wdX7_take cI cJ cZ q_this q_tape q_prior q_pipesIn q_pipe q_met q_chance q_rock q_people q_bad q_well q_ends q_runs q_way q_words q_told q_weight q_days q_depth q_bestDepth q_hopes q_planOf q_planDepth v_tapeSize v_thrown v_salt v_dry v_rest v_fault v_faultPlace v_rocks v_villages v_day v_at v_allPipes v_end v_next_j_268 v_kind_j_268 v_which_j_268 v_place_j_268 v_isPlan v_planMany v_planPipes v_planDays w_tape w_words) → va_S A s.heap H locs → ∀ ls : Array Slot, lv_has ls 1 [] → shX7_take_j_268 v_next_j_268 v_kind_j_268 v_which_j_268 v_place_j_268 = some o → W p l e rmX7_take s m args below meth c H locs 0 0 Q (F0 m 268 ls []) := by
    intro v_next_j_268 v_kind_j_268 v_which_j_268 v_place_j_268 H locs hP hD hS ls hl hsh
    unfold shX7_take_j_268 at hsh
    have ho := Option.some.inj hsh
    rw [← ho] at hret
    exact hret _ _ _ _ dX7_take_268 hP hD hS
  have Jj_143 : ∀ (s1_j_143 : Int32) (v_next_j_143 : Int32) (v_which_j_143 : Int32) (v_place_j_143 : Int32) (H : Heap) (locs : List Loc), va_P D vwCl (wdX7_take cI cJ cZ q_this q_tape q_prior q_pipesIn q_pipe q_met q_chance q_rock q_people q_bad q_well q_ends q_runs q_way q_words q_told q_weight q_days q_depth q_bestDepth q_hopes q_planOf q_planDepth v_tapeSize v_thrown v_salt v_dry v_rest v_fault v_faultPlace v_rocks v_villages v_day v_at v_allPipes v_end v_next_j_143 v_kind v_which_j_143 v_place_j_143 v_isPlan v_planMany v_planPipes v_planDays w_tape w_words) H → va_D A (wdX7_take cI cJ cZ q_this q_tape q_prior q_pipesIn q_pipe q_met q_chance q_rock q_people q_bad q_well q_ends q_runs q_way q_words q_told q_weight q_days q_depth q_bestDepth q_hopes q_planOf q_planDepth v_tapeSize v_thrown v_salt v_dry v_rest v_fault v_faultPlace v_rocks v_villages v_day v_at v_allPipes v_end v_next_j_143 v_kind v_which_j_143 v_place_j_143 v_isPlan v_planMany v_planPipes v_planDays w_tape w_words) → va_S A s.heap H locs → ∀ ls : Array Slot, lv_has ls 1 [] → shX7_take_j_143 s1_j_143 v_next_j_143 v_which_j_143 v_place_j_143 = some o → W p l e rmX7_take s m args below meth c H locs 0 0 Q (F0 m 143 ls [.int s1_j_143, .ref q_this]) := by
    intro s1_j_143 v_next_j_143 v_which_j_143 v_place_j_143 H locs hP hD hS ls hl hsh
    unfold shX7_take_j_143 at hsh
    refine kput (ci := 7) S hK hP hD hS rfl inX7_take_X7 tyX7_ok nmX7 0 rfl 28 (by decide) lkX7_take_106 rfl rfl rfl (Nat.le_of_ble_eq_true rfl) (ws' := (wdX7_take cI cJ cZ q_this q_tape q_prior q_pipesIn q_pipe q_met q_chance q_rock q_people q_bad q_well q_ends q_runs q_way q_words q_told q_weight q_days q_depth q_bestDepth q_hopes q_planOf q_planDepth v_tapeSize v_thrown v_salt v_dry v_rest v_fault v_faultPlace v_rocks v_villages v_day v_at v_allPipes v_end v_next_j_143 s1_j_143 v_which_j_143 v_place_j_143 v_isPlan v_planMany v_planPipes v_planDays w_tape w_words)) rfl dX7_take_143 (fun H locs hP hD hS => ?_)
    refine lv_goto (tgt := 268) hx hb dX7_take_146 (by decide) ?_
    have ho := Option.some.inj hsh
    rw [← ho] at hret
    exact hret _ _ _ _ dX7_take_268 hP hD hS
  have Jj_114 : ∀ (v_next_j_114 : Int32) (v_place_j_114 : Int32) (H : Heap) (locs : List Loc), va_P D vwCl (wdX7_take cI cJ cZ q_this q_tape q_prior q_pipesIn q_pipe q_met q_chance q_rock q_people q_bad q_well q_ends q_runs q_way q_words q_told q_weight q_days q_depth q_bestDepth q_hopes q_planOf q_planDepth v_tapeSize v_thrown v_salt v_dry v_rest v_fault v_faultPlace v_rocks v_villages v_day v_at v_allPipes v_end v_next_j_114 v_kind v_which v_place_j_114 v_isPlan v_planMany v_planPipes v_planDays w_tape w_words) H → va_D A (wdX7_take cI cJ cZ q_this q_tape q_prior q_pipesIn q_pipe q_met q_chance q_rock q_people q_bad q_well q_ends q_runs q_way q_words q_told q_weight q_days q_depth q_bestDepth q_hopes q_planOf q_planDepth v_tapeSize v_thrown v_salt v_dry v_rest v_fault v_faultPlace v_rocks v_villages v_day v_at v_allPipes v_end v_next_j_114 v_kind v_which v_place_j_114 v_isPlan v_planMany v_planPipes v_planDays w_tape w_words) → va_S A s.heap H locs → ∀ ls : Array Slot, lv_has ls 1 [(0, .ref q_this)] → shX7_take_j_114 w_tape w_words v_next_j_114 v_place_j_114 = some o → W p l e rmX7_take s m args below meth c H locs 0 0 Q (F0 m 114 ls []) := by
    intro v_next_j_114 v_place_j_114 H locs hP hD hS ls hl hsh
    unfold shX7_take_j_114 at hsh
    refine lv_aload_n hx hb dX7_take_114 rfl (lv_at hl 0 rfl) ?_
    refine lv_aload_n hx hb dX7_take_115 rfl (lv_at hl 0 rfl) ?_
    refine lv_aload_n hx hb dX7_take_116 rfl (lv_at hl 0 rfl) ?_
    refine kget (ci := 7) S hK hP rfl inX7_take_X7 0 rfl 30 (by decide) lkX7_take_103 rfl dX7_take_117 ?_
    refine lv_aload_n hx hb dX7_take_120 rfl (lv_at hl 0 rfl) ?_
    refine kget (ci := 7) S hK hP rfl inX7_take_X7 0 rfl 27 (by decide) lkX7_take_100 rfl dX7_take_121 ?_
    obtain ⟨o_124, he, hsh⟩ := bd hsh
    refine kVi (ci := 7) S hK hA (ctX7_wordAt l D cI cJ cZ q_this q_tape q_prior q_pipesIn q_pipe q_met q_chance q_rock q_people q_bad q_well q_ends q_runs q_way q_words q_told q_weight q_days q_depth q_bestDepth q_hopes q_planOf q_planDepth v_tapeSize v_thrown v_salt v_dry v_rest v_fault v_faultPlace v_rocks v_villages v_day v_at v_allPipes v_end v_next_j_114 v_kind v_which v_place_j_114 v_isPlan v_planMany v_planPipes v_planDays w_tape w_words v_place_j_114 v_next_j_114 o_124 he) noE_cl (cwV 2 hts gX7_take_X7_wordAt rfl rfl rfl hdX7_wordAt ⟨Nat.le_of_ble_eq_true rfl, Nat.le_of_ble_eq_true rfl⟩) rfl 0 rfl [0, 1, 2] [] [0, 1, 2] (ws' := (wdX7_take cI cJ cZ q_this q_tape q_prior q_pipesIn q_pipe q_met q_chance q_rock q_people q_bad q_well q_ends q_runs q_way q_words q_told q_weight q_days q_depth q_bestDepth q_hopes q_planOf q_planDepth v_tapeSize v_thrown v_salt v_dry v_rest v_fault v_faultPlace v_rocks v_villages v_day v_at v_allPipes v_end v_next_j_114 v_kind v_which v_place_j_114 v_isPlan v_planMany v_planPipes v_planDays w_tape w_words)) ⟨rfl, rfl, rfl, rfl, rfl, rfl, rfl⟩ trivial rfl hl.1 rfl (Nat.le_of_ble_eq_true rfl) dX7_take_124 hP hD hS (fun H locs hP hD hS => ?_)
    refine kput (ci := 7) S hK hP hD hS rfl inX7_take_X7 tyX7_ok nmX7 0 rfl 29 (by decide) lkX7_take_117 rfl rfl rfl (Nat.le_of_ble_eq_true rfl) (ws' := (wdX7_take cI cJ cZ q_this q_tape q_prior q_pipesIn q_pipe q_met q_chance q_rock q_people q_bad q_well q_ends q_runs q_way q_words q_told q_weight q_days q_depth q_bestDepth q_hopes q_planOf q_planDepth v_tapeSize v_thrown v_salt v_dry v_rest v_fault v_faultPlace v_rocks v_villages v_day v_at v_allPipes v_end v_next_j_114 v_kind o_124 v_place_j_114 v_isPlan v_planMany v_planPipes v_planDays w_tape w_words)) rfl dX7_take_127 (fun H locs hP hD hS => ?_)
    refine lv_aload_n hx hb dX7_take_130 rfl (lv_at hl 0 rfl) ?_
    refine lv_aload_n hx hb dX7_take_131 rfl (lv_at hl 0 rfl) ?_
    refine kget (ci := 7) S hK hP rfl inX7_take_X7 0 rfl 29 (by decide) lkX7_take_117 rfl dX7_take_132 ?_
    refine lv_if_ge (tgt := 142) hx hb dX7_take_135 (by decide) (fun c1 => ?_) (fun c1 => ?_)
    · skip
      have hsh := ite_t hsh c1
      refine lv_iconst (v := (1 : Int32)) hx hb dX7_take_142 (by decide) ?_
      exact Jj_143 (1 : Int32) v_next_j_114 o_124 v_place_j_114 H locs hP hD hS ls (lv_sub hl [] rfl) hsh
    · skip
      have hsh := ite_f hsh c1
      refine lv_iconst (v := (4 : Int32)) hx hb dX7_take_138 (by decide) ?_
      refine lv_goto (tgt := 143) hx hb dX7_take_139 (by decide) ?_
      exact Jj_143 (4 : Int32) v_next_j_114 o_124 v_place_j_114 H locs hP hD hS ls (lv_sub hl [] rfl) hsh
  have Jj_52 : ∀ (v_next_j_52 : Int32) (H : Heap) (locs : List Loc), va_P D vwCl (wdX7_take cI cJ cZ q_this q_tape q_prior q_pipesIn q_pipe q_met q_chance q_rock q_people q_bad q_well q_ends q_runs q_way q_words q_told q_weight q_days q_depth q_bestDepth q_hopes q_planOf q_planDepth v_tapeSize v_thrown v_salt v_dry v_rest v_fault v_faultPlace v_rocks v_villages v_day v_at v_allPipes v_end v_next_j_52 v_kind v_which v_place v_isPlan v_planMany v_planPipes v_planDays w_tape w_words) H → va_D A (wdX7_take cI cJ cZ q_this q_tape q_prior q_pipesIn q_pipe q_met q_chance q_rock q_people q_bad q_well q_ends q_runs q_way q_words q_told q_weight q_days q_depth q_bestDepth q_hopes q_planOf q_planDepth v_tapeSize v_thrown v_salt v_dry v_rest v_fault v_faultPlace v_rocks v_villages v_day v_at v_allPipes v_end v_next_j_52 v_kind v_which v_place v_isPlan v_planMany v_planPipes v_planDays w_tape w_words) → va_S A s.heap H locs → ∀ ls : Array Slot, lv_has ls 1 [(0, .ref q_this)] → shX7_take_j_52 v_end v_which w_tape w_words v_next_j_52 = some o → W p l e rmX7_take s m args below meth c H locs 0 0 Q (F0 m 52 ls []) := by
    intro v_next_j_52 H locs hP hD hS ls hl hsh
    unfold shX7_take_j_52 at hsh
    refine lv_aload_n hx hb dX7_take_52 rfl (lv_at hl 0 rfl) ?_
    refine lv_aload_n hx hb dX7_take_53 rfl (lv_at hl 0 rfl) ?_
    refine kget (ci := 7) S hK hP rfl inX7_take_X7 0 rfl 27 (by decide) lkX7_take_100 rfl dX7_take_54 ?_
    refine kput (ci := 7) S hK hP hD hS rfl inX7_take_X7 tyX7_ok nmX7 0 rfl 30 (by decide) lkX7_take_103 rfl rfl rfl (Nat.le_of_ble_eq_true rfl) (ws' := (wdX7_take cI cJ cZ q_this q_tape q_prior q_pipesIn q_pipe q_met q_chance q_rock q_people q_bad q_well q_ends q_runs q_way q_words q_told q_weight q_days q_depth q_bestDepth q_hopes q_planOf q_planDepth v_tapeSize v_thrown v_salt v_dry v_rest v_fault v_faultPlace v_rocks v_villages v_day v_at v_allPipes v_end v_next_j_52 v_kind v_which v_next_j_52 v_isPlan v_planMany v_planPipes v_planDays w_tape w_words)) rfl dX7_take_57 (fun H locs hP hD hS => ?_)
    refine lv_aload_n hx hb dX7_take_60 rfl (lv_at hl 0 rfl) ?_
    refine kget (ci := 7) S hK hP rfl inX7_take_X7 0 rfl 27 (by decide) lkX7_take_100 rfl dX7_take_61 ?_
    refine lv_aload_n hx hb dX7_take_64 rfl (lv_at hl 0 rfl) ?_
    refine kget (ci := 7) S hK hP rfl inX7_take_X7 0 rfl 26 (by decide) lkX7_take_97 rfl dX7_take_65 ?_
    refine lv_icmp_ne (tgt := 79) hx hb dX7_take_68 (by decide) (fun c1 => ?_) (fun c1 => ?_)
    · skip
      have hsh := ite_t hsh c1
      refine lv_aload_n hx hb dX7_take_79 rfl (lv_at hl 0 rfl) ?_
      refine lv_aload_n hx hb dX7_take_80 rfl (lv_at hl 0 rfl) ?_
      refine kget (ci := 7) S hK hP rfl inX7_take_X7 0 rfl 27 (by decide) lkX7_take_100 rfl dX7_take_81 ?_
      obtain ⟨o_84, he, hsh⟩ := bd hsh
      refine kVi (ci := 7) S hK hA (ctX7_isSmall l D cI cJ cZ q_this q_tape q_prior q_pipesIn q_pipe q_met q_chance q_rock q_people q_bad q_well q_ends q_runs q_way q_words q_told q_weight q_days q_depth q_bestDepth q_hopes q_planOf q_planDepth v_tapeSize v_thrown v_salt v_dry v_rest v_fault v_faultPlace v_rocks v_villages v_day v_at v_allPipes v_end v_next_j_52 v_kind v_which v_next_j_52 v_isPlan v_planMany v_planPipes v_planDays w_tape v_next_j_52 o_84 he) noE_cl (cwV 1 hts gX7_take_X7_isSmall rfl rfl rfl hdX7_isSmall ⟨Nat.le_of_ble_eq_true rfl, Nat.le_of_ble_eq_true rfl⟩) rfl 0 rfl [0, 1] [2] [1, 2, 0] (ws' := (wdX7_take cI cJ cZ q_this q_tape q_prior q_pipesIn q_pipe q_met q_chance q_rock q_people q_bad q_well q_ends q_runs q_way q_words q_told q_weight q_days q_depth q_bestDepth q_hopes q_planOf q_planDepth v_tapeSize v_thrown v_salt v_dry v_rest v_fault v_faultPlace v_rocks v_villages v_day v_at v_allPipes v_end v_next_j_52 v_kind v_which v_next_j_52 v_isPlan v_planMany v_planPipes v_planDays w_tape w_words)) ⟨rfl, rfl, rfl, rfl, rfl, rfl, rfl⟩ trivial rfl hl.1 rfl (Nat.le_of_ble_eq_true rfl) dX7_take_84 hP hD hS (fun H locs hP hD hS => ?_)
      refine lv_if_eq (tgt := 149) hx hb dX7_take_87 (by decide) (fun c1 => ?_) (fun c1 => ?_)
      · skip
        have hsh := ite_t hsh c1
        refine lv_aload_n hx hb dX7_take_149 rfl (lv_at hl 0 rfl) ?_
        refine lv_aload_n hx hb dX7_take_150 rfl (lv_at hl 0 rfl) ?_
        refine kget (ci := 7) S hK hP rfl inX7_take_X7 0 rfl 27 (by decide) lkX7_take_100 rfl dX7_take_151 ?_
        obtain ⟨o_154, he, hsh⟩ := bd hsh
        refine kVi (ci := 7) S hK hA (ctX7_isDigit l D cI cJ cZ q_this q_tape q_prior q_pipesIn q_pipe q_met q_chance q_rock q_people q_bad q_well q_ends q_runs q_way q_words q_told q_weight q_days q_depth q_bestDepth q_hopes q_planOf q_planDepth v_tapeSize v_thrown v_salt v_dry v_rest v_fault v_faultPlace v_rocks v_villages v_day v_at v_allPipes v_end v_next_j_52 v_kind v_which v_next_j_52 v_isPlan v_planMany v_planPipes v_planDays w_tape v_next_j_52 o_154 he) noE_cl (cwV 1 hts gX7_take_X7_isDigit rfl rfl rfl hdX7_isDigit ⟨Nat.le_of_ble_eq_true rfl, Nat.le_of_ble_eq_true rfl⟩) rfl 0 rfl [0, 1] [2] [1, 2, 0] (ws' := (wdX7_take cI cJ cZ q_this q_tape q_prior q_pipesIn q_pipe q_met q_chance q_rock q_people q_bad q_well q_ends q_runs q_way q_words q_told q_weight q_days q_depth q_bestDepth q_hopes q_planOf q_planDepth v_tapeSize v_thrown v_salt v_dry v_rest v_fault v_faultPlace v_rocks v_villages v_day v_at v_allPipes v_end v_next_j_52 v_kind v_which v_next_j_52 v_isPlan v_planMany v_planPipes v_planDays w_tape w_words)) ⟨rfl, rfl, rfl, rfl, rfl, rfl, rfl⟩ trivial rfl hl.1 rfl (Nat.le_of_ble_eq_true rfl) dX7_take_154 hP hD hS (fun H locs hP hD hS => ?_)
        refine lv_if_eq (tgt := 235) hx hb dX7_take_157 (by decide) (fun c1 => ?_) (fun c1 => ?_)
        · skip
          have hsh := ite_t hsh c1
          refine lv_aload_n hx hb dX7_take_235 rfl (lv_at hl 0 rfl) ?_
          refine lv_aload_n hx hb dX7_take_236 rfl (lv_at hl 0 rfl) ?_
          refine kget (ci := 7) S hK hP rfl inX7_take_X7 0 rfl 0 (by decide) lkX7_take_7 rfl dX7_take_237 ?_
          refine lv_aload_n hx hb dX7_take_240 rfl (lv_at hl 0 rfl) ?_
          refine kget (ci := 7) S hK hP rfl inX7_take_X7 0 rfl 27 (by decide) lkX7_take_100 rfl dX7_take_241 ?_
          obtain ⟨_, hg, hsh⟩ := bd hsh
          refine kial S hK hP 1 0 rfl rfl (gd_in hg) dX7_take_244 ?_
          refine lv_bipush (v := (59 : Int32)) hx hb dX7_take_245 (by decide) ?_
          refine lv_icmp_ne (tgt := 254) hx hb dX7_take_247 (by decide) (fun c1 => ?_) (fun c1 => ?_)
          · skip
            have hsh := ite_t hsh c1
            refine lv_iconst (v := (4 : Int32)) hx hb dX7_take_254 (by decide) ?_
            exact Jj_255 (4 : Int32) v_next_j_52 v_next_j_52 H locs hP hD hS ls (lv_sub hl [0] rfl) hsh
          · skip
            have hsh := ite_f hsh (fun h => h c1)
            refine lv_iconst (v := (3 : Int32)) hx hb dX7_take_250 (by decide) ?_
            refine lv_goto (tgt := 255) hx hb dX7_take_251 (by decide) ?_
            exact Jj_255 (3 : Int32) v_next_j_52 v_next_j_52 H locs hP hD hS ls (lv_sub hl [0] rfl) hsh
        · skip
          have hsh := ite_f hsh c1
          refine lv_aload_n hx hb dX7_take_160 rfl (lv_at hl 0 rfl) ?_
          refine lv_iconst (v := (2 : Int32)) hx hb dX7_take_161 (by decide) ?_
          refine kput (ci := 7) S hK hP hD hS rfl inX7_take_X7 tyX7_ok nmX7 0 rfl 28 (by decide) lkX7_take_106 rfl rfl rfl (Nat.le_of_ble_eq_true rfl) (ws' := (wdX7_take cI cJ cZ q_this q_tape q_prior q_pipesIn q_pipe q_met q_chance q_rock q_people q_bad q_well q_ends q_runs q_way q_words q_told q_weight q_days q_depth q_bestDepth q_hopes q_planOf q_planDepth v_tapeSize v_thrown v_salt v_dry v_rest v_fault v_faultPlace v_rocks v_villages v_day v_at v_allPipes v_end v_next_j_52 (2 : Int32) v_which v_next_j_52 v_isPlan v_planMany v_planPipes v_planDays w_tape w_words)) rfl dX7_take_162 (fun H locs hP hD hS => ?_)
          refine lv_aload_n hx hb dX7_take_165 rfl (lv_at hl 0 rfl) ?_
          refine lv_iconst (v := (0 : Int32)) hx hb dX7_take_166 (by decide) ?_
          refine kput (ci := 7) S hK hP hD hS rfl inX7_take_X7 tyX7_ok nmX7 0 rfl 29 (by decide) lkX7_take_117 rfl rfl rfl (Nat.le_of_ble_eq_true rfl) (ws' := (wdX7_take cI cJ cZ q_this q_tape q_prior q_pipesIn q_pipe q_met q_chance q_rock q_people q_bad q_well q_ends q_runs q_way q_words q_told q_weight q_days q_depth q_bestDepth q_hopes q_planOf q_planDepth v_tapeSize v_thrown v_salt v_dry v_rest v_fault v_faultPlace v_rocks v_villages v_day v_at v_allPipes v_end v_next_j_52 (2 : Int32) (0 : Int32) v_next_j_52 v_isPlan v_planMany v_planPipes v_planDays w_tape w_words)) rfl dX7_take_167 (fun H locs hP hD hS => ?_)
          obtain ⟨r_170, hl_170, hk_170⟩ := bd hsh
          obtain ⟨n_170, hn_170⟩ := lp_iff.mp hl_170
          have L_170 : ∀ (n : Nat) (v_next_170 : Int32) (v_which_170 : Int32) (H : Heap) (locs : List Loc), va_P D vwCl (wdX7_take cI cJ cZ q_this q_tape q_prior q_pipesIn q_pipe q_met q_chance q_rock q_people q_bad q_well q_ends q_runs q_way q_words q_told q_weight q_days q_depth q_bestDepth q_hopes q_planOf q_planDepth v_tapeSize v_thrown v_salt v_dry v_rest v_fault v_faultPlace v_rocks v_villages v_day v_at v_allPipes v_end v_next_170 (2 : Int32) v_which_170 v_next_j_52 v_isPlan v_planMany v_planPipes v_planDays w_tape w_words) H → va_D A (wdX7_take cI cJ cZ q_this q_tape q_prior q_pipesIn q_pipe q_met q_chance q_rock q_people q_bad q_well q_ends q_runs q_way q_words q_told q_weight q_days q_depth q_bestDepth q_hopes q_planOf q_planDepth v_tapeSize v_thrown v_salt v_dry v_rest v_fault v_faultPlace v_rocks v_villages v_day v_at v_allPipes v_end v_next_170 (2 : Int32) v_which_170 v_next_j_52 v_isPlan v_planMany v_planPipes v_planDays w_tape w_words) → va_S A s.heap H locs → ∀ ls : Array Slot, lv_has ls 1 [(0, .ref q_this)] → it (fun s : Int32 × Int32 => shX7_take_L170 v_end w_tape s.1 s.2) n (v_next_170, v_which_170) = some r_170 → W p l e rmX7_take s m args below meth c H locs 0 0 Q (F0 m 170 ls []) := by
            intro n
            induction n with
            | zero => exact fun _ _ _ _ _ _ _ _ _ hi => it_0 hi
            | succ n ih_170 =>
              intro v_next_170 v_which_170 H locs hP hD hS ls hl hi
              obtain ⟨b_170, hsh, hB1_170, hB2_170⟩ := it_b hi
              replace hsh : shX7_take_L170 v_end w_tape v_next_170 v_which_170 = some b_170 := hsh
              unfold shX7_take_L170 at hsh
              have Jk170_219 : ∀ (s1_k170_219 : Int32) (H : Heap) (locs : List Loc), va_P D vwCl (wdX7_take cI cJ cZ q_this q_tape q_prior q_pipesIn q_pipe q_met q_chance q_rock q_people q_bad q_well q_ends q_runs q_way q_words q_told q_weight q_days q_depth q_bestDepth q_hopes q_planOf q_planDepth v_tapeSize v_thrown v_salt v_dry v_rest v_fault v_faultPlace v_rocks v_villages v_day v_at v_allPipes v_end v_next_170 (2 : Int32) v_which_170 v_next_j_52 v_isPlan v_planMany v_planPipes v_planDays w_tape w_words) H → va_D A (wdX7_take cI cJ cZ q_this q_tape q_prior q_pipesIn q_pipe q_met q_chance q_rock q_people q_bad q_well q_ends q_runs q_way q_words q_told q_weight q_days q_depth q_bestDepth q_hopes q_planOf q_planDepth v_tapeSize v_thrown v_salt v_dry v_rest v_fault v_faultPlace v_rocks v_villages v_day v_at v_allPipes v_end v_next_170 (2 : Int32) v_which_170 v_next_j_52 v_isPlan v_planMany v_planPipes v_planDays w_tape w_words) → va_S A s.heap H locs → ∀ ls : Array Slot, lv_has ls 1 [(0, .ref q_this)] → shX7_take_k170_219 v_next_170 s1_k170_219 = some b_170 → W p l e rmX7_take s m args below meth c H locs 0 0 Q (F0 m 219 ls [.int s1_k170_219, .ref q_this]) := by
                intro s1_k170_219 H locs hP hD hS ls hl hsh
                unfold shX7_take_k170_219 at hsh
                refine kput (ci := 7) S hK hP hD hS rfl inX7_take_X7 tyX7_ok nmX7 0 rfl 29 (by decide) lkX7_take_117 rfl rfl rfl (Nat.le_of_ble_eq_true rfl) (ws' := (wdX7_take cI cJ cZ q_this q_tape q_prior q_pipesIn q_pipe q_met q_chance q_rock q_people q_bad q_well q_ends q_runs q_way q_words q_told q_weight q_days q_depth q_bestDepth q_hopes q_planOf q_planDepth v_tapeSize v_thrown v_salt v_dry v_rest v_fault v_faultPlace v_rocks v_villages v_day v_at v_allPipes v_end v_next_170 (2 : Int32) s1_k170_219 v_next_j_52 v_isPlan v_planMany v_planPipes v_planDays w_tape w_words)) rfl dX7_take_219 (fun H locs hP hD hS => ?_)
                refine lv_aload_n hx hb dX7_take_222 rfl (lv_at hl 0 rfl) ?_
                refine lv_dup hx hb dX7_take_223 rfl ?_
                refine kget (ci := 7) S hK hP rfl inX7_take_X7 0 rfl 27 (by decide) lkX7_take_100 rfl dX7_take_224 ?_
                refine lv_iconst (v := (1 : Int32)) hx hb dX7_take_227 (by decide) ?_
                refine lv_iadd hx hb dX7_take_228 ?_
                refine kput (ci := 7) S hK hP hD hS rfl inX7_take_X7 tyX7_ok nmX7 0 rfl 27 (by decide) lkX7_take_100 rfl rfl rfl (Nat.le_of_ble_eq_true rfl) (ws' := (wdX7_take cI cJ cZ q_this q_tape q_prior q_pipesIn q_pipe q_met q_chance q_rock q_people q_bad q_well q_ends q_runs q_way q_words q_told q_weight q_days q_depth q_bestDepth q_hopes q_planOf q_planDepth v_tapeSize v_thrown v_salt v_dry v_rest v_fault v_faultPlace v_rocks v_villages v_day v_at v_allPipes v_end (v_next_170 + (1 : Int32)) (2 : Int32) s1_k170_219 v_next_j_52 v_isPlan v_planMany v_planPipes v_planDays w_tape w_words)) rfl dX7_take_229 (fun H locs hP hD hS => ?_)
                refine lv_goto (tgt := 170) hx hb dX7_take_232 (by decide) ?_
                exact ih_170 (v_next_170 + (1 : Int32)) s1_k170_219 H locs hP hD hS ls (lv_sub hl [0] rfl) (hB1_170 _ hsh)
              refine lv_aload_n hx hb dX7_take_170 rfl (lv_at hl 0 rfl) ?_
              refine lv_aload_n hx hb dX7_take_171 rfl (lv_at hl 0 rfl) ?_
              refine kget (ci := 7) S hK hP rfl inX7_take_X7 0 rfl 27 (by decide) lkX7_take_100 rfl dX7_take_172 ?_
              obtain ⟨o_175, he, hsh⟩ := bd hsh
              refine kVi (ci := 7) S hK hA (ctX7_isDigit l D cI cJ cZ q_this q_tape q_prior q_pipesIn q_pipe q_met q_chance q_rock q_people q_bad q_well q_ends q_runs q_way q_words q_told q_weight q_days q_depth q_bestDepth q_hopes q_planOf q_planDepth v_tapeSize v_thrown v_salt v_dry v_rest v_fault v_faultPlace v_rocks v_villages v_day v_at v_allPipes v_end v_next_170 (2 : Int32) v_which_170 v_next_j_52 v_isPlan v_planMany v_planPipes v_planDays w_tape v_next_170 o_175 he) noE_cl (cwV 1 hts gX7_take_X7_isDigit rfl rfl rfl hdX7_isDigit ⟨Nat.le_of_ble_eq_true rfl, Nat.le_of_ble_eq_true rfl⟩) rfl 0 rfl [0, 1] [2] [1, 2, 0] (ws' := (wdX7_take cI cJ cZ q_this q_tape q_prior q_pipesIn q_pipe q_met q_chance q_rock q_people q_bad q_well q_ends q_runs q_way q_words q_told q_weight q_days q_depth q_bestDepth q_hopes q_planOf q_planDepth v_tapeSize v_thrown v_salt v_dry v_rest v_fault v_faultPlace v_rocks v_villages v_day v_at v_allPipes v_end v_next_170 (2 : Int32) v_which_170 v_next_j_52 v_isPlan v_planMany v_planPipes v_planDays w_tape w_words)) ⟨rfl, rfl, rfl, rfl, rfl, rfl, rfl⟩ trivial rfl hl.1 rfl (Nat.le_of_ble_eq_true rfl) dX7_take_175 hP hD hS (fun H locs hP hD hS => ?_)
              refine lv_if_eq (tgt := 268) hx hb dX7_take_178 (by decide) (fun c1 => ?_) (fun c1 => ?_)
              · skip
                have hsh := ite_t hsh c1
                have he := hB2_170 _ hsh
                rw [← he] at hk_170
                exact Jj_268 v_next_170 (2 : Int32) v_which_170 v_next_j_52 H locs hP hD hS ls (lv_sub hl [] rfl) hk_170
              · skip
                have hsh := ite_f hsh c1
                refine lv_aload_n hx hb dX7_take_181 rfl (lv_at hl 0 rfl) ?_
                refine lv_aload_n hx hb dX7_take_182 rfl (lv_at hl 0 rfl) ?_
                refine kget (ci := 7) S hK hP rfl inX7_take_X7 0 rfl 29 (by decide) lkX7_take_117 rfl dX7_take_183 ?_
                refine lv_sipush (v := (9999 : Int32)) hx hb dX7_take_186 (by decide) ?_
                refine lv_icmp_le (tgt := 199) hx hb dX7_take_189 (by decide) (fun c1 => ?_) (fun c1 => ?_)
                · skip
                  have hsh := ite_t hsh c1
                  refine lv_bipush (v := (10 : Int32)) hx hb dX7_take_199 (by decide) ?_
                  refine lv_aload_n hx hb dX7_take_201 rfl (lv_at hl 0 rfl) ?_
                  refine kget (ci := 7) S hK hP rfl inX7_take_X7 0 rfl 29 (by decide) lkX7_take_117 rfl dX7_take_202 ?_
                  refine lv_imul hx hb dX7_take_205 ?_
                  refine lv_aload_n hx hb dX7_take_206 rfl (lv_at hl 0 rfl) ?_
                  refine kget (ci := 7) S hK hP rfl inX7_take_X7 0 rfl 0 (by decide) lkX7_take_7 rfl dX7_take_207 ?_
                  refine lv_aload_n hx hb dX7_take_210 rfl (lv_at hl 0 rfl) ?_
                  refine kget (ci := 7) S hK hP rfl inX7_take_X7 0 rfl 27 (by decide) lkX7_take_100 rfl dX7_take_211 ?_
                  obtain ⟨_, hg, hsh⟩ := bd hsh
                  refine kial S hK hP 1 0 rfl rfl (gd_in hg) dX7_take_214 ?_
                  refine lv_iadd hx hb dX7_take_215 ?_
                  refine lv_bipush (v := (48 : Int32)) hx hb dX7_take_216 (by decide) ?_
                  refine lv_isub hx hb dX7_take_218 ?_
                  exact Jk170_219 ((((10 : Int32) * v_which_170) + (w_tape (v_next_170).toNatClampNeg)) - (48 : Int32)) H locs hP hD hS ls (lv_sub hl [0] rfl) hsh
                · skip
                  have hsh := ite_f hsh c1
                  refine lv_aload_n hx hb dX7_take_192 rfl (lv_at hl 0 rfl) ?_
                  refine kget (ci := 7) S hK hP rfl inX7_take_X7 0 rfl 29 (by decide) lkX7_take_117 rfl dX7_take_193 ?_
                  refine lv_goto (tgt := 219) hx hb dX7_take_196 (by decide) ?_
                  exact Jk170_219 v_which_170 H locs hP hD hS ls (lv_sub hl [0] rfl) hsh
          exact L_170 n_170 v_next_j_52 (0 : Int32) H locs hP hD hS ls (lv_sub hl [0] rfl) hn_170
      · skip
        have hsh := ite_f hsh c1
        obtain ⟨r_90, hl_90, hk_90⟩ := bd hsh
        obtain ⟨n_90, hn_90⟩ := lp_iff.mp hl_90
        have L_90 : ∀ (n : Nat) (v_next_90 : Int32) (H : Heap) (locs : List Loc), va_P D vwCl (wdX7_take cI cJ cZ q_this q_tape q_prior q_pipesIn q_pipe q_met q_chance q_rock q_people q_bad q_well q_ends q_runs q_way q_words q_told q_weight q_days q_depth q_bestDepth q_hopes q_planOf q_planDepth v_tapeSize v_thrown v_salt v_dry v_rest v_fault v_faultPlace v_rocks v_villages v_day v_at v_allPipes v_end v_next_90 v_kind v_which v_next_j_52 v_isPlan v_planMany v_planPipes v_planDays w_tape w_words) H → va_D A (wdX7_take cI cJ cZ q_this q_tape q_prior q_pipesIn q_pipe q_met q_chance q_rock q_people q_bad q_well q_ends q_runs q_way q_words q_told q_weight q_days q_depth q_bestDepth q_hopes q_planOf q_planDepth v_tapeSize v_thrown v_salt v_dry v_rest v_fault v_faultPlace v_rocks v_villages v_day v_at v_allPipes v_end v_next_90 v_kind v_which v_next_j_52 v_isPlan v_planMany v_planPipes v_planDays w_tape w_words) → va_S A s.heap H locs → ∀ ls : Array Slot, lv_has ls 1 [(0, .ref q_this)] → it (fun s : Int32 => shX7_take_L90 v_end w_tape s) n v_next_90 = some r_90 → W p l e rmX7_take s m args below meth c H locs 0 0 Q (F0 m 90 ls []) := by
          intro n
          induction n with
          | zero => exact fun _ _ _ _ _ _ _ _ hi => it_0 hi
          | succ n ih_90 =>
            intro v_next_90 H locs hP hD hS ls hl hi
            obtain ⟨b_90, hsh, hB1_90, hB2_90⟩ := it_b hi
            replace hsh : shX7_take_L90 v_end w_tape v_next_90 = some b_90 := hsh
            unfold shX7_take_L90 at hsh
            refine lv_aload_n hx hb dX7_take_90 rfl (lv_at hl 0 rfl) ?_
            refine lv_aload_n hx hb dX7_take_91 rfl (lv_at hl 0 rfl) ?_
            refine kget (ci := 7) S hK hP rfl inX7_take_X7 0 rfl 27 (by decide) lkX7_take_100 rfl dX7_take_92 ?_
            obtain ⟨o_95, he, hsh⟩ := bd hsh
            refine kVi (ci := 7) S hK hA (ctX7_isSmall l D cI cJ cZ q_this q_tape q_prior q_pipesIn q_pipe q_met q_chance q_rock q_people q_bad q_well q_ends q_runs q_way q_words q_told q_weight q_days q_depth q_bestDepth q_hopes q_planOf q_planDepth v_tapeSize v_thrown v_salt v_dry v_rest v_fault v_faultPlace v_rocks v_villages v_day v_at v_allPipes v_end v_next_90 v_kind v_which v_next_j_52 v_isPlan v_planMany v_planPipes v_planDays w_tape v_next_90 o_95 he) noE_cl (cwV 1 hts gX7_take_X7_isSmall rfl rfl rfl hdX7_isSmall ⟨Nat.le_of_ble_eq_true rfl, Nat.le_of_ble_eq_true rfl⟩) rfl 0 rfl [0, 1] [2] [1, 2, 0] (ws' := (wdX7_take cI cJ cZ q_this q_tape q_prior q_pipesIn q_pipe q_met q_chance q_rock q_people q_bad q_well q_ends q_runs q_way q_words q_told q_weight q_days q_depth q_bestDepth q_hopes q_planOf q_planDepth v_tapeSize v_thrown v_salt v_dry v_rest v_fault v_faultPlace v_rocks v_villages v_day v_at v_allPipes v_end v_next_90 v_kind v_which v_next_j_52 v_isPlan v_planMany v_planPipes v_planDays w_tape w_words)) ⟨rfl, rfl, rfl, rfl, rfl, rfl, rfl⟩ trivial rfl hl.1 rfl (Nat.le_of_ble_eq_true rfl) dX7_take_95 hP hD hS (fun H locs hP hD hS => ?_)
            refine lv_if_eq (tgt := 114) hx hb dX7_take_98 (by decide) (fun c1 => ?_) (fun c1 => ?_)
            · skip
              have hsh := ite_t hsh c1
              have he := hB2_90 _ hsh
              rw [← he] at hk_90
              exact Jj_114 v_next_90 v_next_j_52 H locs hP hD hS ls (lv_sub hl [0] rfl) hk_90
            · skip
              have hsh := ite_f hsh c1
              refine lv_aload_n hx hb dX7_take_101 rfl (lv_at hl 0 rfl) ?_
              refine lv_dup hx hb dX7_take_102 rfl ?_
              refine kget (ci := 7) S hK hP rfl inX7_take_X7 0 rfl 27 (by decide) lkX7_take_100 rfl dX7_take_103 ?_
              refine lv_iconst (v := (1 : Int32)) hx hb dX7_take_106 (by decide) ?_
              refine lv_iadd hx hb dX7_take_107 ?_
              refine kput (ci := 7) S hK hP hD hS rfl inX7_take_X7 tyX7_ok nmX7 0 rfl 27 (by decide) lkX7_take_100 rfl rfl rfl (Nat.le_of_ble_eq_true rfl) (ws' := (wdX7_take cI cJ cZ q_this q_tape q_prior q_pipesIn q_pipe q_met q_chance q_rock q_people q_bad q_well q_ends q_runs q_way q_words q_told q_weight q_days q_depth q_bestDepth q_hopes q_planOf q_planDepth v_tapeSize v_thrown v_salt v_dry v_rest v_fault v_faultPlace v_rocks v_villages v_day v_at v_allPipes v_end (v_next_90 + (1 : Int32)) v_kind v_which v_next_j_52 v_isPlan v_planMany v_planPipes v_planDays w_tape w_words)) rfl dX7_take_108 (fun H locs hP hD hS => ?_)
              refine lv_goto (tgt := 90) hx hb dX7_take_111 (by decide) ?_
              exact ih_90 (v_next_90 + (1 : Int32)) H locs hP hD hS ls (lv_sub hl [0] rfl) (hB1_90 _ hsh)
        exact L_90 n_90 v_next_j_52 H locs hP hD hS ls (lv_sub hl [0] rfl) hn_90
    · skip
      have hsh := ite_f hsh (fun h => h c1)
      refine lv_aload_n hx hb dX7_take_71 rfl (lv_at hl 0 rfl) ?_
      refine lv_iconst (v := (0 : Int32)) hx hb dX7_take_72 (by decide) ?_
      refine kput (ci := 7) S hK hP hD hS rfl inX7_take_X7 tyX7_ok nmX7 0 rfl 28 (by decide) lkX7_take_106 rfl rfl rfl (Nat.le_of_ble_eq_true rfl) (ws' := (wdX7_take cI cJ cZ q_this q_tape q_prior q_pipesIn q_pipe q_met q_chance q_rock q_people q_bad q_well q_ends q_runs q_way q_words q_told q_weight q_days q_depth q_bestDepth q_hopes q_planOf q_planDepth v_tapeSize v_thrown v_salt v_dry v_rest v_fault v_faultPlace v_rocks v_villages v_day v_at v_allPipes v_end v_next_j_52 (0 : Int32) v_which v_next_j_52 v_isPlan v_planMany v_planPipes v_planDays w_tape w_words)) rfl dX7_take_73 (fun H locs hP hD hS => ?_)
      refine lv_goto (tgt := 268) hx hb dX7_take_76 (by decide) ?_
      have ho := Option.some.inj hsh
      rw [← ho] at hret
      exact hret _ _ _ _ dX7_take_268 hP hD hS
  obtain ⟨r_0, hl_0, hk_0⟩ := bd hsh
  obtain ⟨n_0, hn_0⟩ := lp_iff.mp hl_0
  have L_0 : ∀ (n : Nat) (v_next_0 : Int32) (H : Heap) (locs : List Loc), va_P D vwCl (wdX7_take cI cJ cZ q_this q_tape q_prior q_pipesIn q_pipe q_met q_chance q_rock q_people q_bad q_well q_ends q_runs q_way q_words q_told q_weight q_days q_depth q_bestDepth q_hopes q_planOf q_planDepth v_tapeSize v_thrown v_salt v_dry v_rest v_fault v_faultPlace v_rocks v_villages v_day v_at v_allPipes v_end v_next_0 v_kind v_which v_place v_isPlan v_planMany v_planPipes v_planDays w_tape w_words) H → va_D A (wdX7_take cI cJ cZ q_this q_tape q_prior q_pipesIn q_pipe q_met q_chance q_rock q_people q_bad q_well q_ends q_runs q_way q_words q_told q_weight q_days q_depth q_bestDepth q_hopes q_planOf q_planDepth v_tapeSize v_thrown v_salt v_dry v_rest v_fault v_faultPlace v_rocks v_villages v_day v_at v_allPipes v_end v_next_0 v_kind v_which v_place v_isPlan v_planMany v_planPipes v_planDays w_tape w_words) → va_S A s.heap H locs → ∀ ls : Array Slot, lv_has ls 1 [(0, .ref q_this)] → it (fun s : Int32 => shX7_take_L0 v_end w_tape s) n v_next_0 = some r_0 → W p l e rmX7_take s m args below meth c H locs 0 0 Q (F0 m 0 ls []) := by
    intro n
    induction n with
    | zero => exact fun _ _ _ _ _ _ _ _ hi => it_0 hi
    | succ n ih_0 =>
      intro v_next_0 H locs hP hD hS ls hl hi
      obtain ⟨b_0, hsh, hB1_0, hB2_0⟩ := it_b hi
      replace hsh : shX7_take_L0 v_end w_tape v_next_0 = some b_0 := hsh
      unfold shX7_take_L0 at hsh
      have Jk0_39 : ∀ (H : Heap) (locs : List Loc), va_P D vwCl (wdX7_take cI cJ cZ q_this q_tape q_prior q_pipesIn q_pipe q_met q_chance q_rock q_people q_bad q_well q_ends q_runs q_way q_words q_told q_weight q_days q_depth q_bestDepth q_hopes q_planOf q_planDepth v_tapeSize v_thrown v_salt v_dry v_rest v_fault v_faultPlace v_rocks v_villages v_day v_at v_allPipes v_end v_next_0 v_kind v_which v_place v_isPlan v_planMany v_planPipes v_planDays w_tape w_words) H → va_D A (wdX7_take cI cJ cZ q_this q_tape q_prior q_pipesIn q_pipe q_met q_chance q_rock q_people q_bad q_well q_ends q_runs q_way q_words q_told q_weight q_days q_depth q_bestDepth q_hopes q_planOf q_planDepth v_tapeSize v_thrown v_salt v_dry v_rest v_fault v_faultPlace v_rocks v_villages v_day v_at v_allPipes v_end v_next_0 v_kind v_which v_place v_isPlan v_planMany v_planPipes v_planDays w_tape w_words) → va_S A s.heap H locs → ∀ ls : Array Slot, lv_has ls 1 [(0, .ref q_this)] → shX7_take_k0_39 v_next_0 = some b_0 → W p l e rmX7_take s m args below meth c H locs 0 0 Q (F0 m 39 ls []) := by
        intro  H locs hP hD hS ls hl hsh
        unfold shX7_take_k0_39 at hsh
        refine lv_aload_n hx hb dX7_take_39 rfl (lv_at hl 0 rfl) ?_
        refine lv_dup hx hb dX7_take_40 rfl ?_
        refine kget (ci := 7) S hK hP rfl inX7_take_X7 0 rfl 27 (by decide) lkX7_take_100 rfl dX7_take_41 ?_
        refine lv_iconst (v := (1 : Int32)) hx hb dX7_take_44 (by decide) ?_
        refine lv_iadd hx hb dX7_take_45 ?_
        refine kput (ci := 7) S hK hP hD hS rfl inX7_take_X7 tyX7_ok nmX7 0 rfl 27 (by decide) lkX7_take_100 rfl rfl rfl (Nat.le_of_ble_eq_true rfl) (ws' := (wdX7_take cI cJ cZ q_this q_tape q_prior q_pipesIn q_pipe q_met q_chance q_rock q_people q_bad q_well q_ends q_runs q_way q_words q_told q_weight q_days q_depth q_bestDepth q_hopes q_planOf q_planDepth v_tapeSize v_thrown v_salt v_dry v_rest v_fault v_faultPlace v_rocks v_villages v_day v_at v_allPipes v_end (v_next_0 + (1 : Int32)) v_kind v_which v_place v_isPlan v_planMany v_planPipes v_planDays w_tape w_words)) rfl dX7_take_46 (fun H locs hP hD hS => ?_)
        refine lv_goto (tgt := 0) hx hb dX7_take_49 (by decide) ?_
        exact ih_0 (v_next_0 + (1 : Int32)) H locs hP hD hS ls (lv_sub hl [0] rfl) (hB1_0 _ hsh)
      refine lv_aload_n hx hb dX7_take_0 rfl (lv_at hl 0 rfl) ?_
      refine kget (ci := 7) S hK hP rfl inX7_take_X7 0 rfl 27 (by decide) lkX7_take_100 rfl dX7_take_1 ?_
      refine lv_aload_n hx hb dX7_take_4 rfl (lv_at hl 0 rfl) ?_
      refine kget (ci := 7) S hK hP rfl inX7_take_X7 0 rfl 26 (by decide) lkX7_take_97 rfl dX7_take_5 ?_
      refine lv_icmp_ge (tgt := 52) hx hb dX7_take_8 (by decide) (fun c1 => ?_) (fun c1 => ?_)
      · skip
        have hsh := ite_t hsh c1
        have he := hB2_0 _ hsh
        rw [← he] at hk_0
        exact Jj_52 v_next_0 H locs hP hD hS ls (lv_sub hl [0] rfl) hk_0
      · skip
        have hsh := ite_f hsh c1
        refine lv_aload_n hx hb dX7_take_11 rfl (lv_at hl 0 rfl) ?_
        refine kget (ci := 7) S hK hP rfl inX7_take_X7 0 rfl 0 (by decide) lkX7_take_7 rfl dX7_take_12 ?_
        refine lv_aload_n hx hb dX7_take_15 rfl (lv_at hl 0 rfl) ?_
        refine kget (ci := 7) S hK hP rfl inX7_take_X7 0 rfl 27 (by decide) lkX7_take_100 rfl dX7_take_16 ?_
        obtain ⟨_, hg, hsh⟩ := bd hsh
        refine kial S hK hP 1 0 rfl rfl (gd_in hg) dX7_take_19 ?_
        refine lv_bipush (v := (10 : Int32)) hx hb dX7_take_20 (by decide) ?_
        refine lv_icmp_eq (tgt := 39) hx hb dX7_take_22 (by decide) (fun c1 => ?_) (fun c1 => ?_)
        · skip
          have hsh := ite_t hsh c1
          exact Jk0_39  H locs hP hD hS ls (lv_sub hl [0] rfl) hsh
        · skip
          have hsh := ite_f hsh c1
          refine lv_aload_n hx hb dX7_take_25 rfl (lv_at hl 0 rfl) ?_
          refine kget (ci := 7) S hK hP rfl inX7_take_X7 0 rfl 0 (by decide) lkX7_take_7 rfl dX7_take_26 ?_
          refine lv_aload_n hx hb dX7_take_29 rfl (lv_at hl 0 rfl) ?_
          refine kget (ci := 7) S hK hP rfl inX7_take_X7 0 rfl 27 (by decide) lkX7_take_100 rfl dX7_take_30 ?_
          obtain ⟨_, hg, hsh⟩ := bd hsh
          refine kial S hK hP 1 0 rfl rfl (gd_in hg) dX7_take_33 ?_
          refine lv_bipush (v := (32 : Int32)) hx hb dX7_take_34 (by decide) ?_
          refine lv_icmp_ne (tgt := 52) hx hb dX7_take_36 (by decide) (fun c1 => ?_) (fun c1 => ?_)
          · skip
            have hsh := ite_t hsh c1
            have he := hB2_0 _ hsh
            rw [← he] at hk_0
            exact Jj_52 v_next_0 H locs hP hD hS ls (lv_sub hl [0] rfl) hk_0
          · skip
            have hsh := ite_f hsh (fun h => h c1)
            exact Jk0_39  H locs hP hD hS ls (lv_sub hl [0] rfl) hsh
  exact L_0 n_0 v_next H locs hP hD hS ls (lv_sub hl [0] rfl) hn_0

/-! DryWellsModel.line -/
noncomputable def shX7_line_j_96 (v_fault : Int32) (v_faultPlace : Int32) (w_told : Nat → Int32) (v_next_j_96 : Int32) (v_kind_j_96 : Int32) (v_which_j_96 : Int32) (v_place_j_96 : Int32) : Option (Int32 × Int32 × Int32 × Int32 × Int32 × Int32 × Int32 × (Nat → Int32)) :=
  ((shX7_wrong (2 : Int32) v_place_j_96 v_fault v_faultPlace).bind fun o_102 => ((gz o_102.1).bind fun _ => some (o_102.1, o_102.2.1, o_102.2.2, v_next_j_96, v_kind_j_96, v_which_j_96, v_place_j_96, w_told)))
noncomputable def shX7_line_j_106 (v_fault : Int32) (v_faultPlace : Int32) (v_end : Int32) (w_tape : Nat → Int32) (w_words : Nat → Int32) (w_told : Nat → Int32) (x1_j_106 : Int32) (v_next_j_106 : Int32) (v_kind_j_106 : Int32) (v_which_j_106 : Int32) (v_place_j_106 : Int32) : Option (Int32 × Int32 × Int32 × Int32 × Int32 × Int32 × Int32 × (Nat → Int32)) :=
  ((gd x1_j_106 3).bind fun _ => ((shX7_take v_end v_next_j_106 v_kind_j_106 v_which_j_106 v_place_j_106 w_tape w_words).bind fun o_117 => (if o_117.2.1 = (3 : Int32) then some ((1 : Int32), v_fault, v_faultPlace, o_117.1, o_117.2.1, o_117.2.2.1, o_117.2.2.2, (upd w_told (x1_j_106).toNatClampNeg v_which_j_106)) else ((shX7_wrong (1 : Int32) o_117.2.2.2 v_fault v_faultPlace).bind fun o_134 => (if o_134.1 = 0 then some ((0 : Int32), o_134.2.1, o_134.2.2, o_117.1, o_117.2.1, o_117.2.2.1, o_117.2.2.2, (upd w_told (x1_j_106).toNatClampNeg v_which_j_106)) else some ((1 : Int32), o_134.2.1, o_134.2.2, o_117.1, o_117.2.1, o_117.2.2.1, o_117.2.2.2, (upd w_told (x1_j_106).toNatClampNeg v_which_j_106)))))))
noncomputable def shX7_line_j_80 (v_fault : Int32) (v_faultPlace : Int32) (v_end : Int32) (w_tape : Nat → Int32) (w_words : Nat → Int32) (w_told : Nat → Int32) (s0_j_80 : Int32) (s1_j_80 : Int32) (x1_j_80 : Int32) (v_next_j_80 : Int32) (v_kind_j_80 : Int32) (v_which_j_80 : Int32) (v_place_j_80 : Int32) : Option (Int32 × Int32 × Int32 × Int32 × Int32 × Int32 × Int32 × (Nat → Int32)) :=
  (if s1_j_80 < s0_j_80 then (shX7_line_j_96 v_fault v_faultPlace w_told v_next_j_80 v_kind_j_80 v_which_j_80 v_place_j_80) else (if ¬ x1_j_80 = (1 : Int32) then (shX7_line_j_106 v_fault v_faultPlace v_end w_tape w_words w_told x1_j_80 v_next_j_80 v_kind_j_80 v_which_j_80 v_place_j_80) else (if (1 : Int32) ≤ v_which_j_80 then (shX7_line_j_106 v_fault v_faultPlace v_end w_tape w_words w_told x1_j_80 v_next_j_80 v_kind_j_80 v_which_j_80 v_place_j_80) else (shX7_line_j_96 v_fault v_faultPlace w_told v_next_j_80 v_kind_j_80 v_which_j_80 v_place_j_80))))
noncomputable def shX7_line (v_fault : Int32) (v_faultPlace : Int32) (v_end : Int32) (v_next : Int32) (v_kind : Int32) (v_which : Int32) (v_place : Int32) (w_tape : Nat → Int32) (w_words : Nat → Int32) (w_told : Nat → Int32) : Option (Int32 × Int32 × Int32 × Int32 × Int32 × Int32 × Int32 × (Nat → Int32)) :=
  (if v_kind = (1 : Int32) then ((gd v_which 3).bind fun _ => (if (w_told (v_which).toNatClampNeg) < 0 then ((shX7_take v_end v_next v_kind v_which v_place w_tape w_words).bind fun o_43 => (if o_43.2.1 = (2 : Int32) then (if ¬ v_which = 0 then (shX7_line_j_80 v_fault v_faultPlace v_end w_tape w_words w_told o_43.2.2.1 (9 : Int32) v_which o_43.1 o_43.2.1 o_43.2.2.1 o_43.2.2.2) else (shX7_line_j_80 v_fault v_faultPlace v_end w_tape w_words w_told o_43.2.2.1 (999 : Int32) v_which o_43.1 o_43.2.1 o_43.2.2.1 o_43.2.2.2)) else ((shX7_wrong (1 : Int32) o_43.2.2.2 v_fault v_faultPlace).bind fun o_60 => ((gz o_60.1).bind fun _ => some (o_60.1, o_60.2.1, o_60.2.2, o_43.1, o_43.2.1, o_43.2.2.1, o_43.2.2.2, w_told))))) else ((shX7_wrong (3 : Int32) v_place v_fault v_faultPlace).bind fun o_38 => ((gz o_38.1).bind fun _ => some (o_38.1, o_38.2.1, o_38.2.2, v_next, v_kind, v_which, v_place, w_told))))) else ((shX7_wrong (1 : Int32) v_place v_fault v_faultPlace).bind fun o_14 => ((gz o_14.1).bind fun _ => some (o_14.1, o_14.2.1, o_14.2.2, v_next, v_kind, v_which, v_place, w_told))))
def wdX7_line (cI cJ cZ : ClassId) (q_this q_tape q_prior q_pipesIn q_pipe q_met q_chance q_rock q_people q_bad q_well q_ends q_runs q_way q_words q_told q_weight q_days q_depth q_bestDepth q_hopes q_planOf q_planDepth : Nat) (v_tapeSize : Int32) (v_thrown : Int32) (v_salt : Int32) (v_dry : Int32) (v_rest : Int32) (v_fault : Int32) (v_faultPlace : Int32) (v_rocks : Int32) (v_villages : Int32) (v_day : Int32) (v_at : Int32) (v_allPipes : Int32) (v_end : Int32) (v_next : Int32) (v_kind : Int32) (v_which : Int32) (v_place : Int32) (v_isPlan : Int32) (v_planMany : Int32) (v_planPipes : Int32) (v_planDays : Int32) (w_tape : Nat → Int32) (w_words : Nat → Int32) (w_told : Nat → Int32) : va_W := [(q_this, .inr (7, [.ref q_tape, .int v_tapeSize, .int v_thrown, .int v_salt, .int v_dry, .int v_rest, .int v_fault, .int v_faultPlace, .int v_rocks, .ref q_prior, .ref q_pipesIn, .ref q_pipe, .ref q_met, .ref q_chance, .int v_villages, .ref q_rock, .ref q_people, .ref q_bad, .ref q_well, .ref q_ends, .ref q_runs, .ref q_way, .int v_day, .int v_at, .int v_allPipes, .ref q_words, .int v_end, .int v_next, .int v_kind, .int v_which, .int v_place, .ref q_told, .ref q_weight, .ref q_days, .ref q_depth, .ref q_bestDepth, .ref q_hopes, .int v_isPlan, .int v_planMany, .int v_planPipes, .int v_planDays, .ref q_planOf, .ref q_planDepth])), (q_tape, .inl (cI, 200, .inl w_tape)), (q_words, .inl (cI, 14, .inl w_words)), (q_told, .inl (cI, 3, .inl w_told))]
abbrev rmX7_line : Room := { frames := 2, cells := 0, slots := 0, locals := 47 }
theorem inX7_line_X7 : ∀ w ∈ u_ws RX7 TX7 43, w ∈ wsX7_line := fun _ h => List.mem_cons_of_mem _ (List.mem_append_right _ h)
theorem lkX7_line_106 : Cond.fieldLink RX7 106 (TX7 28).1 (TX7 28).2.1 (TX7 28).2.2.1 ∈ wsX7_line := List.mem_of_getElem? (i := 1) rfl
theorem lkX7_line_117 : Cond.fieldLink RX7 117 (TX7 29).1 (TX7 29).2.1 (TX7 29).2.2.1 ∈ wsX7_line := List.mem_of_getElem? (i := 3) rfl
theorem lkX7_line_63 : Cond.fieldLink RX7 63 (TX7 31).1 (TX7 31).2.1 (TX7 31).2.2.1 ∈ wsX7_line := List.mem_of_getElem? (i := 4) rfl
theorem lkX7_line_103 : Cond.fieldLink RX7 103 (TX7 30).1 (TX7 30).2.1 (TX7 30).2.2.1 ∈ wsX7_line := List.mem_of_getElem? (i := 2) rfl
theorem hdX7_line : yX7_line.cls = RX7 ∧ yX7_line.cls ≠ "java/lang/invoke/MethodHandle" ∧ yX7_line.cls ≠ "java/lang/invoke/VarHandle" ∧ (parseMethodDescriptor yX7_line.desc).map (fun d => d.parameters.length) = some 0 := by decide +kernel
set_option maxHeartbeats 4000000 in
set_option maxRecDepth 100000 in
theorem ctX7_line (l : Launch) (D : va_G) (cI cJ cZ : ClassId) (q_this q_tape q_prior q_pipesIn q_pipe q_met q_chance q_rock q_people q_bad q_well q_ends q_runs q_way q_words q_told q_weight q_days q_depth q_bestDepth q_hopes q_planOf q_planDepth : Nat) (v_tapeSize : Int32) (v_thrown : Int32) (v_salt : Int32) (v_dry : Int32) (v_rest : Int32) (v_fault : Int32) (v_faultPlace : Int32) (v_rocks : Int32) (v_villages : Int32) (v_day : Int32) (v_at : Int32) (v_allPipes : Int32) (v_end : Int32) (v_next : Int32) (v_kind : Int32) (v_which : Int32) (v_place : Int32) (v_isPlan : Int32) (v_planMany : Int32) (v_planPipes : Int32) (v_planDays : Int32) (w_tape : Nat → Int32) (w_words : Nat → Int32) (w_told : Nat → Int32)  (o : Int32 × Int32 × Int32 × Int32 × Int32 × Int32 × Int32 × (Nat → Int32)) (hsh : shX7_line v_fault v_faultPlace v_end v_next v_kind v_which v_place w_tape w_words w_told = some o) : CtI l yX7_line wsX7_line rmX7_line D (tys3 cI cJ cZ) noE (wdX7_line cI cJ cZ q_this q_tape q_prior q_pipesIn q_pipe q_met q_chance q_rock q_people q_bad q_well q_ends q_runs q_way q_words q_told q_weight q_days q_depth q_bestDepth q_hopes q_planOf q_planDepth v_tapeSize v_thrown v_salt v_dry v_rest v_fault v_faultPlace v_rocks v_villages v_day v_at v_allPipes v_end v_next v_kind v_which v_place v_isPlan v_planMany v_planPipes v_planDays w_tape w_words w_told) [.ref q_this] o.1 (wdX7_line cI cJ cZ q_this q_tape q_prior q_pipesIn q_pipe q_met q_chance q_rock q_people q_bad q_well q_ends q_runs q_way q_words q_told q_weight q_days q_depth q_bestDepth q_hopes q_planOf q_planDepth v_tapeSize v_thrown v_salt v_dry v_rest o.2.1 o.2.2.1 v_rocks v_villages v_day v_at v_allPipes v_end o.2.2.2.1 o.2.2.2.2.1 o.2.2.2.2.2.1 o.2.2.2.2.2.2.1 v_isPlan v_planMany v_planPipes v_planDays w_tape w_words o.2.2.2.2.2.2.2) := by
  refine ctZ plX7 rfl (Nat.le_of_ble_eq_true rfl) ?_
  intro p e s m below meth c A Q S hK hA hE hret H locs hP hD hS ls hl
  replace S : CallFix p m c cX7_line 2 s _ wsX7_line RX7 := S
  generalize ([.ref q_this] : List Value).toArray = args at S hret ⊢
  obtain ⟨hx, hb, hml, hown, hts⟩ := id S
  replace hl : lv_has ls 2 [(0, .ref q_this)] := hl
  unfold shX7_line at hsh
  have Jj_96 : ∀ (v_next_j_96 : Int32) (v_kind_j_96 : Int32) (v_which_j_96 : Int32) (v_place_j_96 : Int32) (H : Heap) (locs : List Loc), va_P D vwCl (wdX7_line cI cJ cZ q_this q_tape q_prior q_pipesIn q_pipe q_met q_chance q_rock q_people q_bad q_well q_ends q_runs q_way q_words q_told q_weight q_days q_depth q_bestDepth q_hopes q_planOf q_planDepth v_tapeSize v_thrown v_salt v_dry v_rest v_fault v_faultPlace v_rocks v_villages v_day v_at v_allPipes v_end v_next_j_96 v_kind_j_96 v_which_j_96 v_place_j_96 v_isPlan v_planMany v_planPipes v_planDays w_tape w_words w_told) H → va_D A (wdX7_line cI cJ cZ q_this q_tape q_prior q_pipesIn q_pipe q_met q_chance q_rock q_people q_bad q_well q_ends q_runs q_way q_words q_told q_weight q_days q_depth q_bestDepth q_hopes q_planOf q_planDepth v_tapeSize v_thrown v_salt v_dry v_rest v_fault v_faultPlace v_rocks v_villages v_day v_at v_allPipes v_end v_next_j_96 v_kind_j_96 v_which_j_96 v_place_j_96 v_isPlan v_planMany v_planPipes v_planDays w_tape w_words w_told) → va_S A s.heap H locs → ∀ ls : Array Slot, lv_has ls 2 [(0, .ref q_this)] → shX7_line_j_96 v_fault v_faultPlace w_told v_next_j_96 v_kind_j_96 v_which_j_96 v_place_j_96 = some o → W p l e rmX7_line s m args below meth c H locs 0 0 Q (F0 m 96 ls []) := by
    intro v_next_j_96 v_kind_j_96 v_which_j_96 v_place_j_96 H locs hP hD hS ls hl hsh
    unfold shX7_line_j_96 at hsh
    refine lv_aload_n hx hb dX7_line_96 rfl (lv_at hl 0 rfl) ?_
    refine lv_iconst (v := (2 : Int32)) hx hb dX7_line_97 (by decide) ?_
    refine lv_aload_n hx hb dX7_line_98 rfl (lv_at hl 0 rfl) ?_
    refine kget (ci := 7) S hK hP rfl inX7_line_X7 0 rfl 30 (by decide) lkX7_line_103 rfl dX7_line_99 ?_
    obtain ⟨o_102, he, hsh⟩ := bd hsh
    refine kVi (ci := 7) S hK hA (ctX7_wrong l D cI cJ cZ q_this q_tape q_prior q_pipesIn q_pipe q_met q_chance q_rock q_people q_bad q_well q_ends q_runs q_way q_words q_told q_weight q_days q_depth q_bestDepth q_hopes q_planOf q_planDepth v_tapeSize v_thrown v_salt v_dry v_rest v_fault v_faultPlace v_rocks v_villages v_day v_at v_allPipes v_end v_next_j_96 v_kind_j_96 v_which_j_96 v_place_j_96 v_isPlan v_planMany v_planPipes v_planDays (2 : Int32) v_place_j_96 o_102 he) noE_cl (cwV 2 hts gX7_line_X7_wrong rfl rfl rfl hdX7_wrong ⟨Nat.le_of_ble_eq_true rfl, Nat.le_of_ble_eq_true rfl⟩) rfl 0 rfl [0] [1, 2, 3] [3, 0, 1, 2] (ws' := (wdX7_line cI cJ cZ q_this q_tape q_prior q_pipesIn q_pipe q_met q_chance q_rock q_people q_bad q_well q_ends q_runs q_way q_words q_told q_weight q_days q_depth q_bestDepth q_hopes q_planOf q_planDepth v_tapeSize v_thrown v_salt v_dry v_rest o_102.2.1 o_102.2.2 v_rocks v_villages v_day v_at v_allPipes v_end v_next_j_96 v_kind_j_96 v_which_j_96 v_place_j_96 v_isPlan v_planMany v_planPipes v_planDays w_tape w_words w_told)) ⟨rfl, rfl, rfl, rfl, rfl, rfl, rfl⟩ trivial rfl hl.1 rfl (Nat.le_of_ble_eq_true rfl) dX7_line_102 hP hD hS (fun H locs hP hD hS => ?_)
    obtain ⟨_, hz, hsh⟩ := bd hsh
    have ho := Option.some.inj hsh
    rw [← ho] at hret
    exact hret _ _ _ _ (gz_nar hz) dX7_line_105 hP hD hS
  have Jj_106 : ∀ (x1_j_106 : Int32) (v_next_j_106 : Int32) (v_kind_j_106 : Int32) (v_which_j_106 : Int32) (v_place_j_106 : Int32) (H : Heap) (locs : List Loc), va_P D vwCl (wdX7_line cI cJ cZ q_this q_tape q_prior q_pipesIn q_pipe q_met q_chance q_rock q_people q_bad q_well q_ends q_runs q_way q_words q_told q_weight q_days q_depth q_bestDepth q_hopes q_planOf q_planDepth v_tapeSize v_thrown v_salt v_dry v_rest v_fault v_faultPlace v_rocks v_villages v_day v_at v_allPipes v_end v_next_j_106 v_kind_j_106 v_which_j_106 v_place_j_106 v_isPlan v_planMany v_planPipes v_planDays w_tape w_words w_told) H → va_D A (wdX7_line cI cJ cZ q_this q_tape q_prior q_pipesIn q_pipe q_met q_chance q_rock q_people q_bad q_well q_ends q_runs q_way q_words q_told q_weight q_days q_depth q_bestDepth q_hopes q_planOf q_planDepth v_tapeSize v_thrown v_salt v_dry v_rest v_fault v_faultPlace v_rocks v_villages v_day v_at v_allPipes v_end v_next_j_106 v_kind_j_106 v_which_j_106 v_place_j_106 v_isPlan v_planMany v_planPipes v_planDays w_tape w_words w_told) → va_S A s.heap H locs → ∀ ls : Array Slot, lv_has ls 2 [(0, .ref q_this), (1, .int x1_j_106)] → shX7_line_j_106 v_fault v_faultPlace v_end w_tape w_words w_told x1_j_106 v_next_j_106 v_kind_j_106 v_which_j_106 v_place_j_106 = some o → W p l e rmX7_line s m args below meth c H locs 0 0 Q (F0 m 106 ls []) := by
    intro x1_j_106 v_next_j_106 v_kind_j_106 v_which_j_106 v_place_j_106 H locs hP hD hS ls hl hsh
    unfold shX7_line_j_106 at hsh
    refine lv_aload_n hx hb dX7_line_106 rfl (lv_at hl 0 rfl) ?_
    refine kget (ci := 7) S hK hP rfl inX7_line_X7 0 rfl 31 (by decide) lkX7_line_63 rfl dX7_line_107 ?_
    refine lv_iload_n hx hb dX7_line_110 rfl (lv_at hl 1 rfl) ?_
    refine lv_aload_n hx hb dX7_line_111 rfl (lv_at hl 0 rfl) ?_
    refine kget (ci := 7) S hK hP rfl inX7_line_X7 0 rfl 29 (by decide) lkX7_line_117 rfl dX7_line_112 ?_
    obtain ⟨_, hg, hsh⟩ := bd hsh
    refine kias S hK hP hD hS 3 0 rfl rfl (gd_in hg) (ws' := (wdX7_line cI cJ cZ q_this q_tape q_prior q_pipesIn q_pipe q_met q_chance q_rock q_people q_bad q_well q_ends q_runs q_way q_words q_told q_weight q_days q_depth q_bestDepth q_hopes q_planOf q_planDepth v_tapeSize v_thrown v_salt v_dry v_rest v_fault v_faultPlace v_rocks v_villages v_day v_at v_allPipes v_end v_next_j_106 v_kind_j_106 v_which_j_106 v_place_j_106 v_isPlan v_planMany v_planPipes v_planDays w_tape w_words (upd w_told (x1_j_106).toNatClampNeg v_which_j_106))) rfl dX7_line_115 (fun H locs hP hD hS => ?_)
    refine lv_aload_n hx hb dX7_line_116 rfl (lv_at hl 0 rfl) ?_
    obtain ⟨o_117, he, hsh⟩ := bd hsh
    refine kVv (ci := 7) S hK hA (ctX7_take l D cI cJ cZ q_this q_tape q_prior q_pipesIn q_pipe q_met q_chance q_rock q_people q_bad q_well q_ends q_runs q_way q_words q_told q_weight q_days q_depth q_bestDepth q_hopes q_planOf q_planDepth v_tapeSize v_thrown v_salt v_dry v_rest v_fault v_faultPlace v_rocks v_villages v_day v_at v_allPipes v_end v_next_j_106 v_kind_j_106 v_which_j_106 v_place_j_106 v_isPlan v_planMany v_planPipes v_planDays w_tape w_words o_117 he) noE_cl (cwV 0 hts gX7_line_X7_take rfl rfl rfl hdX7_take ⟨Nat.le_of_ble_eq_true rfl, Nat.le_of_ble_eq_true rfl⟩) rfl 0 rfl [0, 1, 2] [3] [1, 2, 3, 0] (ws' := (wdX7_line cI cJ cZ q_this q_tape q_prior q_pipesIn q_pipe q_met q_chance q_rock q_people q_bad q_well q_ends q_runs q_way q_words q_told q_weight q_days q_depth q_bestDepth q_hopes q_planOf q_planDepth v_tapeSize v_thrown v_salt v_dry v_rest v_fault v_faultPlace v_rocks v_villages v_day v_at v_allPipes v_end o_117.1 o_117.2.1 o_117.2.2.1 o_117.2.2.2 v_isPlan v_planMany v_planPipes v_planDays w_tape w_words (upd w_told (x1_j_106).toNatClampNeg v_which_j_106))) ⟨rfl, rfl, rfl, rfl, rfl, rfl, rfl⟩ trivial rfl hl.1 rfl (Nat.le_of_ble_eq_true rfl) dX7_line_117 hP hD hS (fun H locs hP hD hS => ?_)
    refine lv_aload_n hx hb dX7_line_120 rfl (lv_at hl 0 rfl) ?_
    refine kget (ci := 7) S hK hP rfl inX7_line_X7 0 rfl 28 (by decide) lkX7_line_106 rfl dX7_line_121 ?_
    refine lv_iconst (v := (3 : Int32)) hx hb dX7_line_124 (by decide) ?_
    refine lv_icmp_eq (tgt := 140) hx hb dX7_line_125 (by decide) (fun c1 => ?_) (fun c1 => ?_)
    · skip
      have hsh := ite_t hsh c1
      refine lv_iconst (v := (1 : Int32)) hx hb dX7_line_140 (by decide) ?_
      refine lv_goto (tgt := 145) hx hb dX7_line_141 (by decide) ?_
      have ho := Option.some.inj hsh
      rw [← ho] at hret
      exact hret _ _ _ _ nar1 dX7_line_145 hP hD hS
    · skip
      have hsh := ite_f hsh c1
      refine lv_aload_n hx hb dX7_line_128 rfl (lv_at hl 0 rfl) ?_
      refine lv_iconst (v := (1 : Int32)) hx hb dX7_line_129 (by decide) ?_
      refine lv_aload_n hx hb dX7_line_130 rfl (lv_at hl 0 rfl) ?_
      refine kget (ci := 7) S hK hP rfl inX7_line_X7 0 rfl 30 (by decide) lkX7_line_103 rfl dX7_line_131 ?_
      obtain ⟨o_134, he, hsh⟩ := bd hsh
      refine kVi (ci := 7) S hK hA (ctX7_wrong l D cI cJ cZ q_this q_tape q_prior q_pipesIn q_pipe q_met q_chance q_rock q_people q_bad q_well q_ends q_runs q_way q_words q_told q_weight q_days q_depth q_bestDepth q_hopes q_planOf q_planDepth v_tapeSize v_thrown v_salt v_dry v_rest v_fault v_faultPlace v_rocks v_villages v_day v_at v_allPipes v_end o_117.1 o_117.2.1 o_117.2.2.1 o_117.2.2.2 v_isPlan v_planMany v_planPipes v_planDays (1 : Int32) o_117.2.2.2 o_134 he) noE_cl (cwV 2 hts gX7_line_X7_wrong rfl rfl rfl hdX7_wrong ⟨Nat.le_of_ble_eq_true rfl, Nat.le_of_ble_eq_true rfl⟩) rfl 0 rfl [0] [1, 2, 3] [3, 0, 1, 2] (ws' := (wdX7_line cI cJ cZ q_this q_tape q_prior q_pipesIn q_pipe q_met q_chance q_rock q_people q_bad q_well q_ends q_runs q_way q_words q_told q_weight q_days q_depth q_bestDepth q_hopes q_planOf q_planDepth v_tapeSize v_thrown v_salt v_dry v_rest o_134.2.1 o_134.2.2 v_rocks v_villages v_day v_at v_allPipes v_end o_117.1 o_117.2.1 o_117.2.2.1 o_117.2.2.2 v_isPlan v_planMany v_planPipes v_planDays w_tape w_words (upd w_told (x1_j_106).toNatClampNeg v_which_j_106))) ⟨rfl, rfl, rfl, rfl, rfl, rfl, rfl⟩ trivial rfl hl.1 rfl (Nat.le_of_ble_eq_true rfl) dX7_line_134 hP hD hS (fun H locs hP hD hS => ?_)
      refine lv_if_eq (tgt := 144) hx hb dX7_line_137 (by decide) (fun c1 => ?_) (fun c1 => ?_)
      · skip
        have hsh := ite_t hsh c1
        refine lv_iconst (v := (0 : Int32)) hx hb dX7_line_144 (by decide) ?_
        have ho := Option.some.inj hsh
        rw [← ho] at hret
        exact hret _ _ _ _ nar0 dX7_line_145 hP hD hS
      · skip
        have hsh := ite_f hsh c1
        refine lv_iconst (v := (1 : Int32)) hx hb dX7_line_140 (by decide) ?_
        refine lv_goto (tgt := 145) hx hb dX7_line_141 (by decide) ?_
        have ho := Option.some.inj hsh
        rw [← ho] at hret
        exact hret _ _ _ _ nar1 dX7_line_145 hP hD hS
  have Jj_80 : ∀ (s0_j_80 : Int32) (s1_j_80 : Int32) (x1_j_80 : Int32) (v_next_j_80 : Int32) (v_kind_j_80 : Int32) (v_which_j_80 : Int32) (v_place_j_80 : Int32) (H : Heap) (locs : List Loc), va_P D vwCl (wdX7_line cI cJ cZ q_this q_tape q_prior q_pipesIn q_pipe q_met q_chance q_rock q_people q_bad q_well q_ends q_runs q_way q_words q_told q_weight q_days q_depth q_bestDepth q_hopes q_planOf q_planDepth v_tapeSize v_thrown v_salt v_dry v_rest v_fault v_faultPlace v_rocks v_villages v_day v_at v_allPipes v_end v_next_j_80 v_kind_j_80 v_which_j_80 v_place_j_80 v_isPlan v_planMany v_planPipes v_planDays w_tape w_words w_told) H → va_D A (wdX7_line cI cJ cZ q_this q_tape q_prior q_pipesIn q_pipe q_met q_chance q_rock q_people q_bad q_well q_ends q_runs q_way q_words q_told q_weight q_days q_depth q_bestDepth q_hopes q_planOf q_planDepth v_tapeSize v_thrown v_salt v_dry v_rest v_fault v_faultPlace v_rocks v_villages v_day v_at v_allPipes v_end v_next_j_80 v_kind_j_80 v_which_j_80 v_place_j_80 v_isPlan v_planMany v_planPipes v_planDays w_tape w_words w_told) → va_S A s.heap H locs → ∀ ls : Array Slot, lv_has ls 2 [(0, .ref q_this), (1, .int x1_j_80)] → shX7_line_j_80 v_fault v_faultPlace v_end w_tape w_words w_told s0_j_80 s1_j_80 x1_j_80 v_next_j_80 v_kind_j_80 v_which_j_80 v_place_j_80 = some o → W p l e rmX7_line s m args below meth c H locs 0 0 Q (F0 m 80 ls [.int s1_j_80, .int s0_j_80]) := by
    intro s0_j_80 s1_j_80 x1_j_80 v_next_j_80 v_kind_j_80 v_which_j_80 v_place_j_80 H locs hP hD hS ls hl hsh
    unfold shX7_line_j_80 at hsh
    refine lv_icmp_gt (tgt := 96) hx hb dX7_line_80 (by decide) (fun c1 => ?_) (fun c1 => ?_)
    · skip
      have hsh := ite_t hsh c1
      exact Jj_96 v_next_j_80 v_kind_j_80 v_which_j_80 v_place_j_80 H locs hP hD hS ls (lv_sub hl [0] rfl) hsh
    · skip
      have hsh := ite_f hsh c1
      refine lv_iload_n hx hb dX7_line_83 rfl (lv_at hl 1 rfl) ?_
      refine lv_iconst (v := (1 : Int32)) hx hb dX7_line_84 (by decide) ?_
      refine lv_icmp_ne (tgt := 106) hx hb dX7_line_85 (by decide) (fun c1 => ?_) (fun c1 => ?_)
      · skip
        have hsh := ite_t hsh c1
        exact Jj_106 x1_j_80 v_next_j_80 v_kind_j_80 v_which_j_80 v_place_j_80 H locs hP hD hS ls (lv_sub hl [0, 1] rfl) hsh
      · skip
        have hsh := ite_f hsh (fun h => h c1)
        refine lv_aload_n hx hb dX7_line_88 rfl (lv_at hl 0 rfl) ?_
        refine kget (ci := 7) S hK hP rfl inX7_line_X7 0 rfl 29 (by decide) lkX7_line_117 rfl dX7_line_89 ?_
        refine lv_iconst (v := (1 : Int32)) hx hb dX7_line_92 (by decide) ?_
        refine lv_icmp_ge (tgt := 106) hx hb dX7_line_93 (by decide) (fun c1 => ?_) (fun c1 => ?_)
        · skip
          have hsh := ite_t hsh c1
          exact Jj_106 x1_j_80 v_next_j_80 v_kind_j_80 v_which_j_80 v_place_j_80 H locs hP hD hS ls (lv_sub hl [0, 1] rfl) hsh
        · skip
          have hsh := ite_f hsh c1
          exact Jj_96 v_next_j_80 v_kind_j_80 v_which_j_80 v_place_j_80 H locs hP hD hS ls (lv_sub hl [0] rfl) hsh
  refine lv_aload_n hx hb dX7_line_0 rfl (lv_at hl 0 rfl) ?_
  refine kget (ci := 7) S hK hP rfl inX7_line_X7 0 rfl 28 (by decide) lkX7_line_106 rfl dX7_line_1 ?_
  refine lv_iconst (v := (1 : Int32)) hx hb dX7_line_4 (by decide) ?_
  refine lv_icmp_eq (tgt := 18) hx hb dX7_line_5 (by decide) (fun c1 => ?_) (fun c1 => ?_)
  · skip
    have hsh := ite_t hsh c1
    refine lv_aload_n hx hb dX7_line_18 rfl (lv_at hl 0 rfl) ?_
    refine kget (ci := 7) S hK hP rfl inX7_line_X7 0 rfl 29 (by decide) lkX7_line_117 rfl dX7_line_19 ?_
    refine lv_istore_n (lv' := [(1, .int v_which), (0, .ref q_this)]) hx hb dX7_line_22 rfl hl (by decide) rfl (fun ls hl => ?_)
    refine lv_aload_n hx hb dX7_line_23 rfl (lv_at hl 1 rfl) ?_
    refine kget (ci := 7) S hK hP rfl inX7_line_X7 0 rfl 31 (by decide) lkX7_line_63 rfl dX7_line_24 ?_
    refine lv_iload_n hx hb dX7_line_27 rfl (lv_at hl 0 rfl) ?_
    obtain ⟨_, hg, hsh⟩ := bd hsh
    refine kial S hK hP 3 0 rfl rfl (gd_in hg) dX7_line_28 ?_
    refine lv_if_lt (tgt := 42) hx hb dX7_line_29 (by decide) (fun c1 => ?_) (fun c1 => ?_)
    · skip
      have hsh := ite_t hsh c1
      refine lv_aload_n hx hb dX7_line_42 rfl (lv_at hl 1 rfl) ?_
      obtain ⟨o_43, he, hsh⟩ := bd hsh
      refine kVv (ci := 7) S hK hA (ctX7_take l D cI cJ cZ q_this q_tape q_prior q_pipesIn q_pipe q_met q_chance q_rock q_people q_bad q_well q_ends q_runs q_way q_words q_told q_weight q_days q_depth q_bestDepth q_hopes q_planOf q_planDepth v_tapeSize v_thrown v_salt v_dry v_rest v_fault v_faultPlace v_rocks v_villages v_day v_at v_allPipes v_end v_next v_kind v_which v_place v_isPlan v_planMany v_planPipes v_planDays w_tape w_words o_43 he) noE_cl (cwV 0 hts gX7_line_X7_take rfl rfl rfl hdX7_take ⟨Nat.le_of_ble_eq_true rfl, Nat.le_of_ble_eq_true rfl⟩) rfl 0 rfl [0, 1, 2] [3] [1, 2, 3, 0] (ws' := (wdX7_line cI cJ cZ q_this q_tape q_prior q_pipesIn q_pipe q_met q_chance q_rock q_people q_bad q_well q_ends q_runs q_way q_words q_told q_weight q_days q_depth q_bestDepth q_hopes q_planOf q_planDepth v_tapeSize v_thrown v_salt v_dry v_rest v_fault v_faultPlace v_rocks v_villages v_day v_at v_allPipes v_end o_43.1 o_43.2.1 o_43.2.2.1 o_43.2.2.2 v_isPlan v_planMany v_planPipes v_planDays w_tape w_words w_told)) ⟨rfl, rfl, rfl, rfl, rfl, rfl, rfl⟩ trivial rfl hl.1 rfl (Nat.le_of_ble_eq_true rfl) dX7_line_43 hP hD hS (fun H locs hP hD hS => ?_)
      refine lv_aload_n hx hb dX7_line_46 rfl (lv_at hl 1 rfl) ?_
      refine kget (ci := 7) S hK hP rfl inX7_line_X7 0 rfl 28 (by decide) lkX7_line_106 rfl dX7_line_47 ?_
      refine lv_iconst (v := (2 : Int32)) hx hb dX7_line_50 (by decide) ?_
      refine lv_icmp_eq (tgt := 64) hx hb dX7_line_51 (by decide) (fun c1 => ?_) (fun c1 => ?_)
      · skip
        have hsh := ite_t hsh c1
        refine lv_aload_n hx hb dX7_line_64 rfl (lv_at hl 1 rfl) ?_
        refine kget (ci := 7) S hK hP rfl inX7_line_X7 0 rfl 29 (by decide) lkX7_line_117 rfl dX7_line_65 ?_
        refine lv_iload_n hx hb dX7_line_68 rfl (lv_at hl 0 rfl) ?_
        refine lv_if_ne (tgt := 78) hx hb dX7_line_69 (by decide) (fun c1 => ?_) (fun c1 => ?_)
        · skip
          have hsh := ite_t hsh c1
          refine lv_bipush (v := (9 : Int32)) hx hb dX7_line_78 (by decide) ?_
          exact Jj_80 o_43.2.2.1 (9 : Int32) v_which o_43.1 o_43.2.1 o_43.2.2.1 o_43.2.2.2 H locs hP hD hS ls (lv_sub hl [1, 0] rfl) hsh
        · skip
          have hsh := ite_f hsh (fun h => h c1)
          refine lv_sipush (v := (999 : Int32)) hx hb dX7_line_72 (by decide) ?_
          refine lv_goto (tgt := 80) hx hb dX7_line_75 (by decide) ?_
          exact Jj_80 o_43.2.2.1 (999 : Int32) v_which o_43.1 o_43.2.1 o_43.2.2.1 o_43.2.2.2 H locs hP hD hS ls (lv_sub hl [1, 0] rfl) hsh
      · skip
        have hsh := ite_f hsh c1
        refine lv_aload_n hx hb dX7_line_54 rfl (lv_at hl 1 rfl) ?_
        refine lv_iconst (v := (1 : Int32)) hx hb dX7_line_55 (by decide) ?_
        refine lv_aload_n hx hb dX7_line_56 rfl (lv_at hl 1 rfl) ?_
        refine kget (ci := 7) S hK hP rfl inX7_line_X7 0 rfl 30 (by decide) lkX7_line_103 rfl dX7_line_57 ?_
        obtain ⟨o_60, he, hsh⟩ := bd hsh
        refine kVi (ci := 7) S hK hA (ctX7_wrong l D cI cJ cZ q_this q_tape q_prior q_pipesIn q_pipe q_met q_chance q_rock q_people q_bad q_well q_ends q_runs q_way q_words q_told q_weight q_days q_depth q_bestDepth q_hopes q_planOf q_planDepth v_tapeSize v_thrown v_salt v_dry v_rest v_fault v_faultPlace v_rocks v_villages v_day v_at v_allPipes v_end o_43.1 o_43.2.1 o_43.2.2.1 o_43.2.2.2 v_isPlan v_planMany v_planPipes v_planDays (1 : Int32) o_43.2.2.2 o_60 he) noE_cl (cwV 2 hts gX7_line_X7_wrong rfl rfl rfl hdX7_wrong ⟨Nat.le_of_ble_eq_true rfl, Nat.le_of_ble_eq_true rfl⟩) rfl 0 rfl [0] [1, 2, 3] [3, 0, 1, 2] (ws' := (wdX7_line cI cJ cZ q_this q_tape q_prior q_pipesIn q_pipe q_met q_chance q_rock q_people q_bad q_well q_ends q_runs q_way q_words q_told q_weight q_days q_depth q_bestDepth q_hopes q_planOf q_planDepth v_tapeSize v_thrown v_salt v_dry v_rest o_60.2.1 o_60.2.2 v_rocks v_villages v_day v_at v_allPipes v_end o_43.1 o_43.2.1 o_43.2.2.1 o_43.2.2.2 v_isPlan v_planMany v_planPipes v_planDays w_tape w_words w_told)) ⟨rfl, rfl, rfl, rfl, rfl, rfl, rfl⟩ trivial rfl hl.1 rfl (Nat.le_of_ble_eq_true rfl) dX7_line_60 hP hD hS (fun H locs hP hD hS => ?_)
        obtain ⟨_, hz, hsh⟩ := bd hsh
        have ho := Option.some.inj hsh
        rw [← ho] at hret
        exact hret _ _ _ _ (gz_nar hz) dX7_line_63 hP hD hS
    · skip
      have hsh := ite_f hsh c1
      refine lv_aload_n hx hb dX7_line_32 rfl (lv_at hl 1 rfl) ?_
      refine lv_iconst (v := (3 : Int32)) hx hb dX7_line_33 (by decide) ?_
      refine lv_aload_n hx hb dX7_line_34 rfl (lv_at hl 1 rfl) ?_
      refine kget (ci := 7) S hK hP rfl inX7_line_X7 0 rfl 30 (by decide) lkX7_line_103 rfl dX7_line_35 ?_
      obtain ⟨o_38, he, hsh⟩ := bd hsh
      refine kVi (ci := 7) S hK hA (ctX7_wrong l D cI cJ cZ q_this q_tape q_prior q_pipesIn q_pipe q_met q_chance q_rock q_people q_bad q_well q_ends q_runs q_way q_words q_told q_weight q_days q_depth q_bestDepth q_hopes q_planOf q_planDepth v_tapeSize v_thrown v_salt v_dry v_rest v_fault v_faultPlace v_rocks v_villages v_day v_at v_allPipes v_end v_next v_kind v_which v_place v_isPlan v_planMany v_planPipes v_planDays (3 : Int32) v_place o_38 he) noE_cl (cwV 2 hts gX7_line_X7_wrong rfl rfl rfl hdX7_wrong ⟨Nat.le_of_ble_eq_true rfl, Nat.le_of_ble_eq_true rfl⟩) rfl 0 rfl [0] [1, 2, 3] [3, 0, 1, 2] (ws' := (wdX7_line cI cJ cZ q_this q_tape q_prior q_pipesIn q_pipe q_met q_chance q_rock q_people q_bad q_well q_ends q_runs q_way q_words q_told q_weight q_days q_depth q_bestDepth q_hopes q_planOf q_planDepth v_tapeSize v_thrown v_salt v_dry v_rest o_38.2.1 o_38.2.2 v_rocks v_villages v_day v_at v_allPipes v_end v_next v_kind v_which v_place v_isPlan v_planMany v_planPipes v_planDays w_tape w_words w_told)) ⟨rfl, rfl, rfl, rfl, rfl, rfl, rfl⟩ trivial rfl hl.1 rfl (Nat.le_of_ble_eq_true rfl) dX7_line_38 hP hD hS (fun H locs hP hD hS => ?_)
      obtain ⟨_, hz, hsh⟩ := bd hsh
      have ho := Option.some.inj hsh
      rw [← ho] at hret
      exact hret _ _ _ _ (gz_nar hz) dX7_line_41 hP hD hS
  · skip
    have hsh := ite_f hsh c1
    refine lv_aload_n hx hb dX7_line_8 rfl (lv_at hl 0 rfl) ?_
    refine lv_iconst (v := (1 : Int32)) hx hb dX7_line_9 (by decide) ?_
    refine lv_aload_n hx hb dX7_line_10 rfl (lv_at hl 0 rfl) ?_
    refine kget (ci := 7) S hK hP rfl inX7_line_X7 0 rfl 30 (by decide) lkX7_line_103 rfl dX7_line_11 ?_
    obtain ⟨o_14, he, hsh⟩ := bd hsh
    refine kVi (ci := 7) S hK hA (ctX7_wrong l D cI cJ cZ q_this q_tape q_prior q_pipesIn q_pipe q_met q_chance q_rock q_people q_bad q_well q_ends q_runs q_way q_words q_told q_weight q_days q_depth q_bestDepth q_hopes q_planOf q_planDepth v_tapeSize v_thrown v_salt v_dry v_rest v_fault v_faultPlace v_rocks v_villages v_day v_at v_allPipes v_end v_next v_kind v_which v_place v_isPlan v_planMany v_planPipes v_planDays (1 : Int32) v_place o_14 he) noE_cl (cwV 2 hts gX7_line_X7_wrong rfl rfl rfl hdX7_wrong ⟨Nat.le_of_ble_eq_true rfl, Nat.le_of_ble_eq_true rfl⟩) rfl 0 rfl [0] [1, 2, 3] [3, 0, 1, 2] (ws' := (wdX7_line cI cJ cZ q_this q_tape q_prior q_pipesIn q_pipe q_met q_chance q_rock q_people q_bad q_well q_ends q_runs q_way q_words q_told q_weight q_days q_depth q_bestDepth q_hopes q_planOf q_planDepth v_tapeSize v_thrown v_salt v_dry v_rest o_14.2.1 o_14.2.2 v_rocks v_villages v_day v_at v_allPipes v_end v_next v_kind v_which v_place v_isPlan v_planMany v_planPipes v_planDays w_tape w_words w_told)) ⟨rfl, rfl, rfl, rfl, rfl, rfl, rfl⟩ trivial rfl hl.1 rfl (Nat.le_of_ble_eq_true rfl) dX7_line_14 hP hD hS (fun H locs hP hD hS => ?_)
    obtain ⟨_, hz, hsh⟩ := bd hsh
    have ho := Option.some.inj hsh
    rw [← ho] at hret
    exact hret _ _ _ _ (gz_nar hz) dX7_line_17 hP hD hS

/-! DryWellsModel.rules -/
noncomputable def shX7_rules_j_85 (v_salt : Int32) (v_dry : Int32) (v_rest : Int32) (v_tapeSize_j_85 : Int32) (v_thrown_j_85 : Int32) (v_fault_j_85 : Int32) (v_faultPlace_j_85 : Int32) (v_end_j_85 : Int32) (v_next_j_85 : Int32) (v_kind_j_85 : Int32) (v_which_j_85 : Int32) (v_place_j_85 : Int32) (w_told_j_85 : Nat → Int32) : Option (Int32 × Int32 × Int32 × Int32 × Int32 × Int32 × Int32 × Int32 × Int32 × Int32 × Int32 × Int32 × Int32 × (Nat → Int32)) :=
  some ((-1 : Int32), v_tapeSize_j_85, v_thrown_j_85, v_salt, v_dry, v_rest, v_fault_j_85, v_faultPlace_j_85, v_end_j_85, v_next_j_85, v_kind_j_85, v_which_j_85, v_place_j_85, w_told_j_85)
noncomputable def shX7_rules_j_166 (s1_j_166 : Int32) (x2_j_166 : Int32) (v_tapeSize_j_166 : Int32) (v_thrown_j_166 : Int32) (v_salt_j_166 : Int32) (v_dry_j_166 : Int32) (v_fault_j_166 : Int32) (v_faultPlace_j_166 : Int32) (v_end_j_166 : Int32) (v_next_j_166 : Int32) (v_kind_j_166 : Int32) (v_which_j_166 : Int32) (v_place_j_166 : Int32) (w_told_j_166 : Nat → Int32) : Option (Int32 × Int32 × Int32 × Int32 × Int32 × Int32 × Int32 × Int32 × Int32 × Int32 × Int32 × Int32 × Int32 × (Nat → Int32)) :=
  some (x2_j_166, v_tapeSize_j_166, v_thrown_j_166, v_salt_j_166, v_dry_j_166, s1_j_166, v_fault_j_166, v_faultPlace_j_166, v_end_j_166, v_next_j_166, v_kind_j_166, v_which_j_166, v_place_j_166, w_told_j_166)
noncomputable def shX7_rules_j_143 (s1_j_143 : Int32) (x2_j_143 : Int32) (v_tapeSize_j_143 : Int32) (v_thrown_j_143 : Int32) (v_salt_j_143 : Int32) (v_fault_j_143 : Int32) (v_faultPlace_j_143 : Int32) (v_end_j_143 : Int32) (v_next_j_143 : Int32) (v_kind_j_143 : Int32) (v_which_j_143 : Int32) (v_place_j_143 : Int32) (w_told_j_143 : Nat → Int32) : Option (Int32 × Int32 × Int32 × Int32 × Int32 × Int32 × Int32 × Int32 × Int32 × Int32 × Int32 × Int32 × Int32 × (Nat → Int32)) :=
  (if 0 ≤ (w_told_j_143 ((2 : Int32)).toNatClampNeg) then (shX7_rules_j_166 (w_told_j_143 ((2 : Int32)).toNatClampNeg) x2_j_143 v_tapeSize_j_143 v_thrown_j_143 v_salt_j_143 s1_j_143 v_fault_j_143 v_faultPlace_j_143 v_end_j_143 v_next_j_143 v_kind_j_143 v_which_j_143 v_place_j_143 w_told_j_143) else (shX7_rules_j_166 (0 : Int32) x2_j_143 v_tapeSize_j_143 v_thrown_j_143 v_salt_j_143 s1_j_143 v_fault_j_143 v_faultPlace_j_143 v_end_j_143 v_next_j_143 v_kind_j_143 v_which_j_143 v_place_j_143 w_told_j_143))
noncomputable def shX7_rules_j_119 (s1_j_119 : Int32) (x2_j_119 : Int32) (v_tapeSize_j_119 : Int32) (v_thrown_j_119 : Int32) (v_fault_j_119 : Int32) (v_faultPlace_j_119 : Int32) (v_end_j_119 : Int32) (v_next_j_119 : Int32) (v_kind_j_119 : Int32) (v_which_j_119 : Int32) (v_place_j_119 : Int32) (w_told_j_119 : Nat → Int32) : Option (Int32 × Int32 × Int32 × Int32 × Int32 × Int32 × Int32 × Int32 × Int32 × Int32 × Int32 × Int32 × Int32 × (Nat → Int32)) :=
  (if 0 ≤ (w_told_j_119 ((1 : Int32)).toNatClampNeg) then (shX7_rules_j_143 (w_told_j_119 ((1 : Int32)).toNatClampNeg) x2_j_119 v_tapeSize_j_119 v_thrown_j_119 s1_j_119 v_fault_j_119 v_faultPlace_j_119 v_end_j_119 v_next_j_119 v_kind_j_119 v_which_j_119 v_place_j_119 w_told_j_119) else (shX7_rules_j_143 (9 : Int32) x2_j_119 v_tapeSize_j_119 v_thrown_j_119 s1_j_119 v_fault_j_119 v_faultPlace_j_119 v_end_j_119 v_next_j_119 v_kind_j_119 v_which_j_119 v_place_j_119 w_told_j_119))
noncomputable def shX7_rules_j_97 (x2_j_97 : Int32) (v_tapeSize_j_97 : Int32) (v_thrown_j_97 : Int32) (v_fault_j_97 : Int32) (v_faultPlace_j_97 : Int32) (v_end_j_97 : Int32) (v_next_j_97 : Int32) (v_kind_j_97 : Int32) (v_which_j_97 : Int32) (v_place_j_97 : Int32) (w_told_j_97 : Nat → Int32) : Option (Int32 × Int32 × Int32 × Int32 × Int32 × Int32 × Int32 × Int32 × Int32 × Int32 × Int32 × Int32 × Int32 × (Nat → Int32)) :=
  (if 0 ≤ (w_told_j_97 ((0 : Int32)).toNatClampNeg) then (shX7_rules_j_119 (w_told_j_97 ((0 : Int32)).toNatClampNeg) x2_j_97 v_tapeSize_j_97 v_thrown_j_97 v_fault_j_97 v_faultPlace_j_97 v_end_j_97 v_next_j_97 v_kind_j_97 v_which_j_97 v_place_j_97 w_told_j_97) else (shX7_rules_j_119 (999 : Int32) x2_j_97 v_tapeSize_j_97 v_thrown_j_97 v_fault_j_97 v_faultPlace_j_97 v_end_j_97 v_next_j_97 v_kind_j_97 v_which_j_97 v_place_j_97 w_told_j_97))
noncomputable def shX7_rules_L71 (w_tape : Nat → Int32) (w_words : Nat → Int32) (v_end_j_60 : Int32) (x2_71 : Int32) (v_fault_71 : Int32) (v_faultPlace_71 : Int32) (v_next_71 : Int32) (v_kind_71 : Int32) (v_which_71 : Int32) (v_place_71 : Int32) (w_told_71 : Nat → Int32) : Option ((Int32 × Int32 × Int32 × Int32 × Int32 × Int32 × Int32 × (Nat → Int32)) ⊕ ((Int32 × Int32 × Int32 × Int32 × Int32 × Int32 × (Nat → Int32)) ⊕ (Int32 × Int32 × Int32 × Int32 × Int32 × Int32 × Int32 × (Nat → Int32)))) :=
  (if v_kind_71 = 0 then some (Sum.inr (Sum.inr (x2_71, v_fault_71, v_faultPlace_71, v_next_71, v_kind_71, v_which_71, v_place_71, w_told_71))) else ((shX7_line v_fault_71 v_faultPlace_71 v_end_j_60 v_next_71 v_kind_71 v_which_71 v_place_71 w_tape w_words w_told_71).bind fun o_79 => (if ¬ o_79.1 = 0 then ((shX7_take v_end_j_60 o_79.2.2.2.1 o_79.2.2.2.2.1 o_79.2.2.2.2.2.1 o_79.2.2.2.2.2.2.1 w_tape w_words).bind fun o_91 => some (Sum.inl ((x2_71 + (1 : Int32)), o_79.2.1, o_79.2.2.1, o_91.1, o_91.2.1, o_91.2.2.1, o_91.2.2.2, o_79.2.2.2.2.2.2.2))) else some (Sum.inr (Sum.inl (o_79.2.1, o_79.2.2.1, o_79.2.2.2.1, o_79.2.2.2.2.1, o_79.2.2.2.2.2.1, o_79.2.2.2.2.2.2.1, o_79.2.2.2.2.2.2.2))))))
noncomputable def shX7_rules_j_60 (v_salt : Int32) (v_dry : Int32) (v_rest : Int32) (v_kind : Int32) (v_which : Int32) (v_place : Int32) (w_tape : Nat → Int32) (w_words : Nat → Int32) (v_tapeSize_j_60 : Int32) (v_thrown_j_60 : Int32) (v_fault_j_60 : Int32) (v_faultPlace_j_60 : Int32) (v_end_j_60 : Int32) (w_told_j_60 : Nat → Int32) : Option (Int32 × Int32 × Int32 × Int32 × Int32 × Int32 × Int32 × Int32 × Int32 × Int32 × Int32 × Int32 × Int32 × (Nat → Int32)) :=
  ((shX7_take v_end_j_60 (0 : Int32) v_kind v_which v_place w_tape w_words).bind fun o_68 => ((lp (fun s : Int32 × Int32 × Int32 × Int32 × Int32 × Int32 × Int32 × (Nat → Int32) => shX7_rules_L71 w_tape w_words v_end_j_60 s.1 s.2.1 s.2.2.1 s.2.2.2.1 s.2.2.2.2.1 s.2.2.2.2.2.1 s.2.2.2.2.2.2.1 s.2.2.2.2.2.2.2) ((0 : Int32), v_fault_j_60, v_faultPlace_j_60, o_68.1, o_68.2.1, o_68.2.2.1, o_68.2.2.2, w_told_j_60)).bind (Sum.elim (fun p : Int32 × Int32 × Int32 × Int32 × Int32 × Int32 × (Nat → Int32) => shX7_rules_j_85 v_salt v_dry v_rest v_tapeSize_j_60 v_thrown_j_60 p.1 p.2.1 v_end_j_60 p.2.2.1 p.2.2.2.1 p.2.2.2.2.1 p.2.2.2.2.2.1 p.2.2.2.2.2.2) (fun p : Int32 × Int32 × Int32 × Int32 × Int32 × Int32 × Int32 × (Nat → Int32) => shX7_rules_j_97 p.1 v_tapeSize_j_60 v_thrown_j_60 p.2.1 p.2.2.1 v_end_j_60 p.2.2.2.1 p.2.2.2.2.1 p.2.2.2.2.2.1 p.2.2.2.2.2.2.1 p.2.2.2.2.2.2.2))))
noncomputable def shX7_rules_L42 (x2_42 : Int32) (w_told_42 : Nat → Int32) : Option ((Int32 × (Nat → Int32)) ⊕ (((Nat → Int32)))) :=
  (if (3 : Int32) ≤ x2_42 then some (Sum.inr w_told_42) else ((gd x2_42 3).bind fun _ => some (Sum.inl ((x2_42 + (1 : Int32)), (upd w_told_42 (x2_42).toNatClampNeg (-1 : Int32))))))
noncomputable def shX7_rules (a1 : Int32) (v_tapeSize : Int32) (v_thrown : Int32) (v_salt : Int32) (v_dry : Int32) (v_rest : Int32) (v_fault : Int32) (v_faultPlace : Int32) (v_end : Int32) (v_next : Int32) (v_kind : Int32) (v_which : Int32) (v_place : Int32) (w_tape : Nat → Int32) (w_words : Nat → Int32) (w_told : Nat → Int32) : Option (Int32 × Int32 × Int32 × Int32 × Int32 × Int32 × Int32 × Int32 × Int32 × Int32 × Int32 × Int32 × Int32 × (Nat → Int32)) :=
  (if a1 < 0 then some ((-2 : Int32), v_tapeSize, (0 : Int32), v_salt, v_dry, v_rest, v_fault, v_faultPlace, v_end, v_next, v_kind, v_which, v_place, w_told) else (if a1 ≤ v_tapeSize then ((lp (fun s : Int32 × (Nat → Int32) => shX7_rules_L42 s.1 s.2) ((0 : Int32), w_told)).bind (fun p : (Nat → Int32) => shX7_rules_j_60 v_salt v_dry v_rest v_kind v_which v_place w_tape w_words (0 : Int32) (0 : Int32) (0 : Int32) (-1 : Int32) a1 p)) else some ((-2 : Int32), v_tapeSize, (0 : Int32), v_salt, v_dry, v_rest, v_fault, v_faultPlace, v_end, v_next, v_kind, v_which, v_place, w_told)))
def wdX7_rules (cI cJ cZ : ClassId) (q_this q_tape q_prior q_pipesIn q_pipe q_met q_chance q_rock q_people q_bad q_well q_ends q_runs q_way q_words q_told q_weight q_days q_depth q_bestDepth q_hopes q_planOf q_planDepth : Nat) (v_tapeSize : Int32) (v_thrown : Int32) (v_salt : Int32) (v_dry : Int32) (v_rest : Int32) (v_fault : Int32) (v_faultPlace : Int32) (v_rocks : Int32) (v_villages : Int32) (v_day : Int32) (v_at : Int32) (v_allPipes : Int32) (v_end : Int32) (v_next : Int32) (v_kind : Int32) (v_which : Int32) (v_place : Int32) (v_isPlan : Int32) (v_planMany : Int32) (v_planPipes : Int32) (v_planDays : Int32) (w_tape : Nat → Int32) (w_words : Nat → Int32) (w_told : Nat → Int32) : va_W := [(q_this, .inr (7, [.ref q_tape, .int v_tapeSize, .int v_thrown, .int v_salt, .int v_dry, .int v_rest, .int v_fault, .int v_faultPlace, .int v_rocks, .ref q_prior, .ref q_pipesIn, .ref q_pipe, .ref q_met, .ref q_chance, .int v_villages, .ref q_rock, .ref q_people, .ref q_bad, .ref q_well, .ref q_ends, .ref q_runs, .ref q_way, .int v_day, .int v_at, .int v_allPipes, .ref q_words, .int v_end, .int v_next, .int v_kind, .int v_which, .int v_place, .ref q_told, .ref q_weight, .ref q_days, .ref q_depth, .ref q_bestDepth, .ref q_hopes, .int v_isPlan, .int v_planMany, .int v_planPipes, .int v_planDays, .ref q_planOf, .ref q_planDepth])), (q_tape, .inl (cI, 200, .inl w_tape)), (q_words, .inl (cI, 14, .inl w_words)), (q_told, .inl (cI, 3, .inl w_told))]
abbrev rmX7_rules : Room := { frames := 3, cells := 0, slots := 0, locals := 68 }
theorem inX7_rules_X7 : ∀ w ∈ u_ws RX7 TX7 43, w ∈ wsX7_rules := fun _ h => List.mem_cons_of_mem _ (List.mem_append_right _ h)
theorem lkX7_rules_88 : Cond.fieldLink RX7 88 (TX7 2).1 (TX7 2).2.1 (TX7 2).2.2.1 ∈ wsX7_rules := List.mem_of_getElem? (i := 1) rfl
theorem lkX7_rules_91 : Cond.fieldLink RX7 91 (TX7 1).1 (TX7 1).2.1 (TX7 1).2.2.1 ∈ wsX7_rules := List.mem_of_getElem? (i := 2) rfl
theorem lkX7_rules_97 : Cond.fieldLink RX7 97 (TX7 26).1 (TX7 26).2.1 (TX7 26).2.2.1 ∈ wsX7_rules := List.mem_of_getElem? (i := 3) rfl
theorem lkX7_rules_94 : Cond.fieldLink RX7 94 (TX7 6).1 (TX7 6).2.1 (TX7 6).2.2.1 ∈ wsX7_rules := List.mem_of_getElem? (i := 4) rfl
theorem lkX7_rules_20 : Cond.fieldLink RX7 20 (TX7 7).1 (TX7 7).2.1 (TX7 7).2.2.1 ∈ wsX7_rules := List.mem_of_getElem? (i := 5) rfl
theorem lkX7_rules_100 : Cond.fieldLink RX7 100 (TX7 27).1 (TX7 27).2.1 (TX7 27).2.2.1 ∈ wsX7_rules := List.mem_of_getElem? (i := 7) rfl
theorem lkX7_rules_63 : Cond.fieldLink RX7 63 (TX7 31).1 (TX7 31).2.1 (TX7 31).2.2.1 ∈ wsX7_rules := List.mem_of_getElem? (i := 6) rfl
theorem lkX7_rules_13 : Cond.fieldLink RX7 13 (TX7 3).1 (TX7 3).2.1 (TX7 3).2.2.1 ∈ wsX7_rules := List.mem_of_getElem? (i := 9) rfl
theorem lkX7_rules_17 : Cond.fieldLink RX7 17 (TX7 4).1 (TX7 4).2.1 (TX7 4).2.2.1 ∈ wsX7_rules := List.mem_of_getElem? (i := 10) rfl
theorem lkX7_rules_134 : Cond.fieldLink RX7 134 (TX7 5).1 (TX7 5).2.1 (TX7 5).2.2.1 ∈ wsX7_rules := List.mem_of_getElem? (i := 11) rfl
theorem lkX7_rules_106 : Cond.fieldLink RX7 106 (TX7 28).1 (TX7 28).2.1 (TX7 28).2.2.1 ∈ wsX7_rules := List.mem_of_getElem? (i := 8) rfl
theorem hdX7_rules : yX7_rules.cls = RX7 ∧ yX7_rules.cls ≠ "java/lang/invoke/MethodHandle" ∧ yX7_rules.cls ≠ "java/lang/invoke/VarHandle" ∧ (parseMethodDescriptor yX7_rules.desc).map (fun d => d.parameters.length) = some 1 := by decide +kernel
set_option maxHeartbeats 4000000 in
set_option maxRecDepth 100000 in
theorem ctX7_rules (l : Launch) (D : va_G) (cI cJ cZ : ClassId) (q_this q_tape q_prior q_pipesIn q_pipe q_met q_chance q_rock q_people q_bad q_well q_ends q_runs q_way q_words q_told q_weight q_days q_depth q_bestDepth q_hopes q_planOf q_planDepth : Nat) (v_tapeSize : Int32) (v_thrown : Int32) (v_salt : Int32) (v_dry : Int32) (v_rest : Int32) (v_fault : Int32) (v_faultPlace : Int32) (v_rocks : Int32) (v_villages : Int32) (v_day : Int32) (v_at : Int32) (v_allPipes : Int32) (v_end : Int32) (v_next : Int32) (v_kind : Int32) (v_which : Int32) (v_place : Int32) (v_isPlan : Int32) (v_planMany : Int32) (v_planPipes : Int32) (v_planDays : Int32) (w_tape : Nat → Int32) (w_words : Nat → Int32) (w_told : Nat → Int32) (a1 : Int32) (o : Int32 × Int32 × Int32 × Int32 × Int32 × Int32 × Int32 × Int32 × Int32 × Int32 × Int32 × Int32 × Int32 × (Nat → Int32)) (hsh : shX7_rules a1 v_tapeSize v_thrown v_salt v_dry v_rest v_fault v_faultPlace v_end v_next v_kind v_which v_place w_tape w_words w_told = some o) : CtI l yX7_rules wsX7_rules rmX7_rules D (tys3 cI cJ cZ) noE (wdX7_rules cI cJ cZ q_this q_tape q_prior q_pipesIn q_pipe q_met q_chance q_rock q_people q_bad q_well q_ends q_runs q_way q_words q_told q_weight q_days q_depth q_bestDepth q_hopes q_planOf q_planDepth v_tapeSize v_thrown v_salt v_dry v_rest v_fault v_faultPlace v_rocks v_villages v_day v_at v_allPipes v_end v_next v_kind v_which v_place v_isPlan v_planMany v_planPipes v_planDays w_tape w_words w_told) [.ref q_this, .int a1] o.1 (wdX7_rules cI cJ cZ q_this q_tape q_prior q_pipesIn q_pipe q_met q_chance q_rock q_people q_bad q_well q_ends q_runs q_way q_words q_told q_weight q_days q_depth q_bestDepth q_hopes q_planOf q_planDepth o.2.1 o.2.2.1 o.2.2.2.1 o.2.2.2.2.1 o.2.2.2.2.2.1 o.2.2.2.2.2.2.1 o.2.2.2.2.2.2.2.1 v_rocks v_villages v_day v_at v_allPipes o.2.2.2.2.2.2.2.2.1 o.2.2.2.2.2.2.2.2.2.1 o.2.2.2.2.2.2.2.2.2.2.1 o.2.2.2.2.2.2.2.2.2.2.2.1 o.2.2.2.2.2.2.2.2.2.2.2.2.1 v_isPlan v_planMany v_planPipes v_planDays w_tape w_words o.2.2.2.2.2.2.2.2.2.2.2.2.2) := by
  refine ctI plX7 rfl (Nat.le_of_ble_eq_true rfl) ?_
  intro p e s m below meth c A Q S hK hA hE hret H locs hP hD hS ls hl
  replace S : CallFix p m c cX7_rules 3 s _ wsX7_rules RX7 := S
  generalize ([.ref q_this, .int a1] : List Value).toArray = args at S hret ⊢
  obtain ⟨hx, hb, hml, hown, hts⟩ := id S
  replace hl : lv_has ls 3 [(0, .ref q_this), (1, .int a1)] := hl
  unfold shX7_rules at hsh
  have Jj_85 : ∀ (v_tapeSize_j_85 : Int32) (v_thrown_j_85 : Int32) (v_fault_j_85 : Int32) (v_faultPlace_j_85 : Int32) (v_end_j_85 : Int32) (v_next_j_85 : Int32) (v_kind_j_85 : Int32) (v_which_j_85 : Int32) (v_place_j_85 : Int32) (w_told_j_85 : Nat → Int32) (H : Heap) (locs : List Loc), va_P D vwCl (wdX7_rules cI cJ cZ q_this q_tape q_prior q_pipesIn q_pipe q_met q_chance q_rock q_people q_bad q_well q_ends q_runs q_way q_words q_told q_weight q_days q_depth q_bestDepth q_hopes q_planOf q_planDepth v_tapeSize_j_85 v_thrown_j_85 v_salt v_dry v_rest v_fault_j_85 v_faultPlace_j_85 v_rocks v_villages v_day v_at v_allPipes v_end_j_85 v_next_j_85 v_kind_j_85 v_which_j_85 v_place_j_85 v_isPlan v_planMany v_planPipes v_planDays w_tape w_words w_told_j_85) H → va_D A (wdX7_rules cI cJ cZ q_this q_tape q_prior q_pipesIn q_pipe q_met q_chance q_rock q_people q_bad q_well q_ends q_runs q_way q_words q_told q_weight q_days q_depth q_bestDepth q_hopes q_planOf q_planDepth v_tapeSize_j_85 v_thrown_j_85 v_salt v_dry v_rest v_fault_j_85 v_faultPlace_j_85 v_rocks v_villages v_day v_at v_allPipes v_end_j_85 v_next_j_85 v_kind_j_85 v_which_j_85 v_place_j_85 v_isPlan v_planMany v_planPipes v_planDays w_tape w_words w_told_j_85) → va_S A s.heap H locs → ∀ ls : Array Slot, lv_has ls 3 [] → shX7_rules_j_85 v_salt v_dry v_rest v_tapeSize_j_85 v_thrown_j_85 v_fault_j_85 v_faultPlace_j_85 v_end_j_85 v_next_j_85 v_kind_j_85 v_which_j_85 v_place_j_85 w_told_j_85 = some o → W p l e rmX7_rules s m args below meth c H locs 0 0 Q (F0 m 85 ls []) := by
    intro v_tapeSize_j_85 v_thrown_j_85 v_fault_j_85 v_faultPlace_j_85 v_end_j_85 v_next_j_85 v_kind_j_85 v_which_j_85 v_place_j_85 w_told_j_85 H locs hP hD hS ls hl hsh
    unfold shX7_rules_j_85 at hsh
    refine lv_iconst (v := (-1 : Int32)) hx hb dX7_rules_85 (by decide) ?_
    have ho := Option.some.inj hsh
    rw [← ho] at hret
    exact hret _ _ _ _ dX7_rules_86 hP hD hS
  have Jj_166 : ∀ (s1_j_166 : Int32) (x2_j_166 : Int32) (v_tapeSize_j_166 : Int32) (v_thrown_j_166 : Int32) (v_salt_j_166 : Int32) (v_dry_j_166 : Int32) (v_fault_j_166 : Int32) (v_faultPlace_j_166 : Int32) (v_end_j_166 : Int32) (v_next_j_166 : Int32) (v_kind_j_166 : Int32) (v_which_j_166 : Int32) (v_place_j_166 : Int32) (w_told_j_166 : Nat → Int32) (H : Heap) (locs : List Loc), va_P D vwCl (wdX7_rules cI cJ cZ q_this q_tape q_prior q_pipesIn q_pipe q_met q_chance q_rock q_people q_bad q_well q_ends q_runs q_way q_words q_told q_weight q_days q_depth q_bestDepth q_hopes q_planOf q_planDepth v_tapeSize_j_166 v_thrown_j_166 v_salt_j_166 v_dry_j_166 v_rest v_fault_j_166 v_faultPlace_j_166 v_rocks v_villages v_day v_at v_allPipes v_end_j_166 v_next_j_166 v_kind_j_166 v_which_j_166 v_place_j_166 v_isPlan v_planMany v_planPipes v_planDays w_tape w_words w_told_j_166) H → va_D A (wdX7_rules cI cJ cZ q_this q_tape q_prior q_pipesIn q_pipe q_met q_chance q_rock q_people q_bad q_well q_ends q_runs q_way q_words q_told q_weight q_days q_depth q_bestDepth q_hopes q_planOf q_planDepth v_tapeSize_j_166 v_thrown_j_166 v_salt_j_166 v_dry_j_166 v_rest v_fault_j_166 v_faultPlace_j_166 v_rocks v_villages v_day v_at v_allPipes v_end_j_166 v_next_j_166 v_kind_j_166 v_which_j_166 v_place_j_166 v_isPlan v_planMany v_planPipes v_planDays w_tape w_words w_told_j_166) → va_S A s.heap H locs → ∀ ls : Array Slot, lv_has ls 3 [(2, .int x2_j_166)] → shX7_rules_j_166 s1_j_166 x2_j_166 v_tapeSize_j_166 v_thrown_j_166 v_salt_j_166 v_dry_j_166 v_fault_j_166 v_faultPlace_j_166 v_end_j_166 v_next_j_166 v_kind_j_166 v_which_j_166 v_place_j_166 w_told_j_166 = some o → W p l e rmX7_rules s m args below meth c H locs 0 0 Q (F0 m 166 ls [.int s1_j_166, .ref q_this]) := by
    intro s1_j_166 x2_j_166 v_tapeSize_j_166 v_thrown_j_166 v_salt_j_166 v_dry_j_166 v_fault_j_166 v_faultPlace_j_166 v_end_j_166 v_next_j_166 v_kind_j_166 v_which_j_166 v_place_j_166 w_told_j_166 H locs hP hD hS ls hl hsh
    unfold shX7_rules_j_166 at hsh
    refine kput (ci := 7) S hK hP hD hS rfl inX7_rules_X7 tyX7_ok nmX7 0 rfl 5 (by decide) lkX7_rules_134 rfl rfl rfl (Nat.le_of_ble_eq_true rfl) (ws' := (wdX7_rules cI cJ cZ q_this q_tape q_prior q_pipesIn q_pipe q_met q_chance q_rock q_people q_bad q_well q_ends q_runs q_way q_words q_told q_weight q_days q_depth q_bestDepth q_hopes q_planOf q_planDepth v_tapeSize_j_166 v_thrown_j_166 v_salt_j_166 v_dry_j_166 s1_j_166 v_fault_j_166 v_faultPlace_j_166 v_rocks v_villages v_day v_at v_allPipes v_end_j_166 v_next_j_166 v_kind_j_166 v_which_j_166 v_place_j_166 v_isPlan v_planMany v_planPipes v_planDays w_tape w_words w_told_j_166)) rfl dX7_rules_166 (fun H locs hP hD hS => ?_)
    refine lv_iload_n hx hb dX7_rules_169 rfl (lv_at hl 0 rfl) ?_
    have ho := Option.some.inj hsh
    rw [← ho] at hret
    exact hret _ _ _ _ dX7_rules_170 hP hD hS
  have Jj_143 : ∀ (s1_j_143 : Int32) (x2_j_143 : Int32) (v_tapeSize_j_143 : Int32) (v_thrown_j_143 : Int32) (v_salt_j_143 : Int32) (v_fault_j_143 : Int32) (v_faultPlace_j_143 : Int32) (v_end_j_143 : Int32) (v_next_j_143 : Int32) (v_kind_j_143 : Int32) (v_which_j_143 : Int32) (v_place_j_143 : Int32) (w_told_j_143 : Nat → Int32) (H : Heap) (locs : List Loc), va_P D vwCl (wdX7_rules cI cJ cZ q_this q_tape q_prior q_pipesIn q_pipe q_met q_chance q_rock q_people q_bad q_well q_ends q_runs q_way q_words q_told q_weight q_days q_depth q_bestDepth q_hopes q_planOf q_planDepth v_tapeSize_j_143 v_thrown_j_143 v_salt_j_143 v_dry v_rest v_fault_j_143 v_faultPlace_j_143 v_rocks v_villages v_day v_at v_allPipes v_end_j_143 v_next_j_143 v_kind_j_143 v_which_j_143 v_place_j_143 v_isPlan v_planMany v_planPipes v_planDays w_tape w_words w_told_j_143) H → va_D A (wdX7_rules cI cJ cZ q_this q_tape q_prior q_pipesIn q_pipe q_met q_chance q_rock q_people q_bad q_well q_ends q_runs q_way q_words q_told q_weight q_days q_depth q_bestDepth q_hopes q_planOf q_planDepth v_tapeSize_j_143 v_thrown_j_143 v_salt_j_143 v_dry v_rest v_fault_j_143 v_faultPlace_j_143 v_rocks v_villages v_day v_at v_allPipes v_end_j_143 v_next_j_143 v_kind_j_143 v_which_j_143 v_place_j_143 v_isPlan v_planMany v_planPipes v_planDays w_tape w_words w_told_j_143) → va_S A s.heap H locs → ∀ ls : Array Slot, lv_has ls 3 [(0, .ref q_this), (2, .int x2_j_143)] → shX7_rules_j_143 s1_j_143 x2_j_143 v_tapeSize_j_143 v_thrown_j_143 v_salt_j_143 v_fault_j_143 v_faultPlace_j_143 v_end_j_143 v_next_j_143 v_kind_j_143 v_which_j_143 v_place_j_143 w_told_j_143 = some o → W p l e rmX7_rules s m args below meth c H locs 0 0 Q (F0 m 143 ls [.int s1_j_143, .ref q_this]) := by
    intro s1_j_143 x2_j_143 v_tapeSize_j_143 v_thrown_j_143 v_salt_j_143 v_fault_j_143 v_faultPlace_j_143 v_end_j_143 v_next_j_143 v_kind_j_143 v_which_j_143 v_place_j_143 w_told_j_143 H locs hP hD hS ls hl hsh
    unfold shX7_rules_j_143 at hsh
    refine kput (ci := 7) S hK hP hD hS rfl inX7_rules_X7 tyX7_ok nmX7 0 rfl 4 (by decide) lkX7_rules_17 rfl rfl rfl (Nat.le_of_ble_eq_true rfl) (ws' := (wdX7_rules cI cJ cZ q_this q_tape q_prior q_pipesIn q_pipe q_met q_chance q_rock q_people q_bad q_well q_ends q_runs q_way q_words q_told q_weight q_days q_depth q_bestDepth q_hopes q_planOf q_planDepth v_tapeSize_j_143 v_thrown_j_143 v_salt_j_143 s1_j_143 v_rest v_fault_j_143 v_faultPlace_j_143 v_rocks v_villages v_day v_at v_allPipes v_end_j_143 v_next_j_143 v_kind_j_143 v_which_j_143 v_place_j_143 v_isPlan v_planMany v_planPipes v_planDays w_tape w_words w_told_j_143)) rfl dX7_rules_143 (fun H locs hP hD hS => ?_)
    refine lv_aload_n hx hb dX7_rules_146 rfl (lv_at hl 0 rfl) ?_
    refine lv_aload_n hx hb dX7_rules_147 rfl (lv_at hl 0 rfl) ?_
    refine kget (ci := 7) S hK hP rfl inX7_rules_X7 0 rfl 31 (by decide) lkX7_rules_63 rfl dX7_rules_148 ?_
    refine lv_iconst (v := (2 : Int32)) hx hb dX7_rules_151 (by decide) ?_
    refine kial S hK hP 3 0 rfl rfl (vin (by decide)) dX7_rules_152 ?_
    refine lv_if_ge (tgt := 160) hx hb dX7_rules_153 (by decide) (fun c1 => ?_) (fun c1 => ?_)
    · skip
      have hsh := ite_t hsh c1
      refine lv_aload_n hx hb dX7_rules_160 rfl (lv_at hl 0 rfl) ?_
      refine kget (ci := 7) S hK hP rfl inX7_rules_X7 0 rfl 31 (by decide) lkX7_rules_63 rfl dX7_rules_161 ?_
      refine lv_iconst (v := (2 : Int32)) hx hb dX7_rules_164 (by decide) ?_
      refine kial S hK hP 3 0 rfl rfl (vin (by decide)) dX7_rules_165 ?_
      exact Jj_166 (w_told_j_143 ((2 : Int32)).toNatClampNeg) x2_j_143 v_tapeSize_j_143 v_thrown_j_143 v_salt_j_143 s1_j_143 v_fault_j_143 v_faultPlace_j_143 v_end_j_143 v_next_j_143 v_kind_j_143 v_which_j_143 v_place_j_143 w_told_j_143 H locs hP hD hS ls (lv_sub hl [1] rfl) hsh
    · skip
      have hsh := ite_f hsh c1
      refine lv_iconst (v := (0 : Int32)) hx hb dX7_rules_156 (by decide) ?_
      refine lv_goto (tgt := 166) hx hb dX7_rules_157 (by decide) ?_
      exact Jj_166 (0 : Int32) x2_j_143 v_tapeSize_j_143 v_thrown_j_143 v_salt_j_143 s1_j_143 v_fault_j_143 v_faultPlace_j_143 v_end_j_143 v_next_j_143 v_kind_j_143 v_which_j_143 v_place_j_143 w_told_j_143 H locs hP hD hS ls (lv_sub hl [1] rfl) hsh
  have Jj_119 : ∀ (s1_j_119 : Int32) (x2_j_119 : Int32) (v_tapeSize_j_119 : Int32) (v_thrown_j_119 : Int32) (v_fault_j_119 : Int32) (v_faultPlace_j_119 : Int32) (v_end_j_119 : Int32) (v_next_j_119 : Int32) (v_kind_j_119 : Int32) (v_which_j_119 : Int32) (v_place_j_119 : Int32) (w_told_j_119 : Nat → Int32) (H : Heap) (locs : List Loc), va_P D vwCl (wdX7_rules cI cJ cZ q_this q_tape q_prior q_pipesIn q_pipe q_met q_chance q_rock q_people q_bad q_well q_ends q_runs q_way q_words q_told q_weight q_days q_depth q_bestDepth q_hopes q_planOf q_planDepth v_tapeSize_j_119 v_thrown_j_119 v_salt v_dry v_rest v_fault_j_119 v_faultPlace_j_119 v_rocks v_villages v_day v_at v_allPipes v_end_j_119 v_next_j_119 v_kind_j_119 v_which_j_119 v_place_j_119 v_isPlan v_planMany v_planPipes v_planDays w_tape w_words w_told_j_119) H → va_D A (wdX7_rules cI cJ cZ q_this q_tape q_prior q_pipesIn q_pipe q_met q_chance q_rock q_people q_bad q_well q_ends q_runs q_way q_words q_told q_weight q_days q_depth q_bestDepth q_hopes q_planOf q_planDepth v_tapeSize_j_119 v_thrown_j_119 v_salt v_dry v_rest v_fault_j_119 v_faultPlace_j_119 v_rocks v_villages v_day v_at v_allPipes v_end_j_119 v_next_j_119 v_kind_j_119 v_which_j_119 v_place_j_119 v_isPlan v_planMany v_planPipes v_planDays w_tape w_words w_told_j_119) → va_S A s.heap H locs → ∀ ls : Array Slot, lv_has ls 3 [(0, .ref q_this), (2, .int x2_j_119)] → shX7_rules_j_119 s1_j_119 x2_j_119 v_tapeSize_j_119 v_thrown_j_119 v_fault_j_119 v_faultPlace_j_119 v_end_j_119 v_next_j_119 v_kind_j_119 v_which_j_119 v_place_j_119 w_told_j_119 = some o → W p l e rmX7_rules s m args below meth c H locs 0 0 Q (F0 m 119 ls [.int s1_j_119, .ref q_this]) := by
    intro s1_j_119 x2_j_119 v_tapeSize_j_119 v_thrown_j_119 v_fault_j_119 v_faultPlace_j_119 v_end_j_119 v_next_j_119 v_kind_j_119 v_which_j_119 v_place_j_119 w_told_j_119 H locs hP hD hS ls hl hsh
    unfold shX7_rules_j_119 at hsh
    refine kput (ci := 7) S hK hP hD hS rfl inX7_rules_X7 tyX7_ok nmX7 0 rfl 3 (by decide) lkX7_rules_13 rfl rfl rfl (Nat.le_of_ble_eq_true rfl) (ws' := (wdX7_rules cI cJ cZ q_this q_tape q_prior q_pipesIn q_pipe q_met q_chance q_rock q_people q_bad q_well q_ends q_runs q_way q_words q_told q_weight q_days q_depth q_bestDepth q_hopes q_planOf q_planDepth v_tapeSize_j_119 v_thrown_j_119 s1_j_119 v_dry v_rest v_fault_j_119 v_faultPlace_j_119 v_rocks v_villages v_day v_at v_allPipes v_end_j_119 v_next_j_119 v_kind_j_119 v_which_j_119 v_place_j_119 v_isPlan v_planMany v_planPipes v_planDays w_tape w_words w_told_j_119)) rfl dX7_rules_119 (fun H locs hP hD hS => ?_)
    refine lv_aload_n hx hb dX7_rules_122 rfl (lv_at hl 0 rfl) ?_
    refine lv_aload_n hx hb dX7_rules_123 rfl (lv_at hl 0 rfl) ?_
    refine kget (ci := 7) S hK hP rfl inX7_rules_X7 0 rfl 31 (by decide) lkX7_rules_63 rfl dX7_rules_124 ?_
    refine lv_iconst (v := (1 : Int32)) hx hb dX7_rules_127 (by decide) ?_
    refine kial S hK hP 3 0 rfl rfl (vin (by decide)) dX7_rules_128 ?_
    refine lv_if_ge (tgt := 137) hx hb dX7_rules_129 (by decide) (fun c1 => ?_) (fun c1 => ?_)
    · skip
      have hsh := ite_t hsh c1
      refine lv_aload_n hx hb dX7_rules_137 rfl (lv_at hl 0 rfl) ?_
      refine kget (ci := 7) S hK hP rfl inX7_rules_X7 0 rfl 31 (by decide) lkX7_rules_63 rfl dX7_rules_138 ?_
      refine lv_iconst (v := (1 : Int32)) hx hb dX7_rules_141 (by decide) ?_
      refine kial S hK hP 3 0 rfl rfl (vin (by decide)) dX7_rules_142 ?_
      exact Jj_143 (w_told_j_119 ((1 : Int32)).toNatClampNeg) x2_j_119 v_tapeSize_j_119 v_thrown_j_119 s1_j_119 v_fault_j_119 v_faultPlace_j_119 v_end_j_119 v_next_j_119 v_kind_j_119 v_which_j_119 v_place_j_119 w_told_j_119 H locs hP hD hS ls (lv_sub hl [0, 1] rfl) hsh
    · skip
      have hsh := ite_f hsh c1
      refine lv_bipush (v := (9 : Int32)) hx hb dX7_rules_132 (by decide) ?_
      refine lv_goto (tgt := 143) hx hb dX7_rules_134 (by decide) ?_
      exact Jj_143 (9 : Int32) x2_j_119 v_tapeSize_j_119 v_thrown_j_119 s1_j_119 v_fault_j_119 v_faultPlace_j_119 v_end_j_119 v_next_j_119 v_kind_j_119 v_which_j_119 v_place_j_119 w_told_j_119 H locs hP hD hS ls (lv_sub hl [0, 1] rfl) hsh
  have Jj_97 : ∀ (x2_j_97 : Int32) (v_tapeSize_j_97 : Int32) (v_thrown_j_97 : Int32) (v_fault_j_97 : Int32) (v_faultPlace_j_97 : Int32) (v_end_j_97 : Int32) (v_next_j_97 : Int32) (v_kind_j_97 : Int32) (v_which_j_97 : Int32) (v_place_j_97 : Int32) (w_told_j_97 : Nat → Int32) (H : Heap) (locs : List Loc), va_P D vwCl (wdX7_rules cI cJ cZ q_this q_tape q_prior q_pipesIn q_pipe q_met q_chance q_rock q_people q_bad q_well q_ends q_runs q_way q_words q_told q_weight q_days q_depth q_bestDepth q_hopes q_planOf q_planDepth v_tapeSize_j_97 v_thrown_j_97 v_salt v_dry v_rest v_fault_j_97 v_faultPlace_j_97 v_rocks v_villages v_day v_at v_allPipes v_end_j_97 v_next_j_97 v_kind_j_97 v_which_j_97 v_place_j_97 v_isPlan v_planMany v_planPipes v_planDays w_tape w_words w_told_j_97) H → va_D A (wdX7_rules cI cJ cZ q_this q_tape q_prior q_pipesIn q_pipe q_met q_chance q_rock q_people q_bad q_well q_ends q_runs q_way q_words q_told q_weight q_days q_depth q_bestDepth q_hopes q_planOf q_planDepth v_tapeSize_j_97 v_thrown_j_97 v_salt v_dry v_rest v_fault_j_97 v_faultPlace_j_97 v_rocks v_villages v_day v_at v_allPipes v_end_j_97 v_next_j_97 v_kind_j_97 v_which_j_97 v_place_j_97 v_isPlan v_planMany v_planPipes v_planDays w_tape w_words w_told_j_97) → va_S A s.heap H locs → ∀ ls : Array Slot, lv_has ls 3 [(0, .ref q_this), (2, .int x2_j_97)] → shX7_rules_j_97 x2_j_97 v_tapeSize_j_97 v_thrown_j_97 v_fault_j_97 v_faultPlace_j_97 v_end_j_97 v_next_j_97 v_kind_j_97 v_which_j_97 v_place_j_97 w_told_j_97 = some o → W p l e rmX7_rules s m args below meth c H locs 0 0 Q (F0 m 97 ls []) := by
    intro x2_j_97 v_tapeSize_j_97 v_thrown_j_97 v_fault_j_97 v_faultPlace_j_97 v_end_j_97 v_next_j_97 v_kind_j_97 v_which_j_97 v_place_j_97 w_told_j_97 H locs hP hD hS ls hl hsh
    unfold shX7_rules_j_97 at hsh
    refine lv_aload_n hx hb dX7_rules_97 rfl (lv_at hl 0 rfl) ?_
    refine lv_aload_n hx hb dX7_rules_98 rfl (lv_at hl 0 rfl) ?_
    refine kget (ci := 7) S hK hP rfl inX7_rules_X7 0 rfl 31 (by decide) lkX7_rules_63 rfl dX7_rules_99 ?_
    refine lv_iconst (v := (0 : Int32)) hx hb dX7_rules_102 (by decide) ?_
    refine kial S hK hP 3 0 rfl rfl (vin (by decide)) dX7_rules_103 ?_
    refine lv_if_ge (tgt := 113) hx hb dX7_rules_104 (by decide) (fun c1 => ?_) (fun c1 => ?_)
    · skip
      have hsh := ite_t hsh c1
      refine lv_aload_n hx hb dX7_rules_113 rfl (lv_at hl 0 rfl) ?_
      refine kget (ci := 7) S hK hP rfl inX7_rules_X7 0 rfl 31 (by decide) lkX7_rules_63 rfl dX7_rules_114 ?_
      refine lv_iconst (v := (0 : Int32)) hx hb dX7_rules_117 (by decide) ?_
      refine kial S hK hP 3 0 rfl rfl (vin (by decide)) dX7_rules_118 ?_
      exact Jj_119 (w_told_j_97 ((0 : Int32)).toNatClampNeg) x2_j_97 v_tapeSize_j_97 v_thrown_j_97 v_fault_j_97 v_faultPlace_j_97 v_end_j_97 v_next_j_97 v_kind_j_97 v_which_j_97 v_place_j_97 w_told_j_97 H locs hP hD hS ls (lv_sub hl [0, 1] rfl) hsh
    · skip
      have hsh := ite_f hsh c1
      refine lv_sipush (v := (999 : Int32)) hx hb dX7_rules_107 (by decide) ?_
      refine lv_goto (tgt := 119) hx hb dX7_rules_110 (by decide) ?_
      exact Jj_119 (999 : Int32) x2_j_97 v_tapeSize_j_97 v_thrown_j_97 v_fault_j_97 v_faultPlace_j_97 v_end_j_97 v_next_j_97 v_kind_j_97 v_which_j_97 v_place_j_97 w_told_j_97 H locs hP hD hS ls (lv_sub hl [0, 1] rfl) hsh
  have Jj_60 : ∀ (v_tapeSize_j_60 : Int32) (v_thrown_j_60 : Int32) (v_fault_j_60 : Int32) (v_faultPlace_j_60 : Int32) (v_end_j_60 : Int32) (w_told_j_60 : Nat → Int32) (H : Heap) (locs : List Loc), va_P D vwCl (wdX7_rules cI cJ cZ q_this q_tape q_prior q_pipesIn q_pipe q_met q_chance q_rock q_people q_bad q_well q_ends q_runs q_way q_words q_told q_weight q_days q_depth q_bestDepth q_hopes q_planOf q_planDepth v_tapeSize_j_60 v_thrown_j_60 v_salt v_dry v_rest v_fault_j_60 v_faultPlace_j_60 v_rocks v_villages v_day v_at v_allPipes v_end_j_60 v_next v_kind v_which v_place v_isPlan v_planMany v_planPipes v_planDays w_tape w_words w_told_j_60) H → va_D A (wdX7_rules cI cJ cZ q_this q_tape q_prior q_pipesIn q_pipe q_met q_chance q_rock q_people q_bad q_well q_ends q_runs q_way q_words q_told q_weight q_days q_depth q_bestDepth q_hopes q_planOf q_planDepth v_tapeSize_j_60 v_thrown_j_60 v_salt v_dry v_rest v_fault_j_60 v_faultPlace_j_60 v_rocks v_villages v_day v_at v_allPipes v_end_j_60 v_next v_kind v_which v_place v_isPlan v_planMany v_planPipes v_planDays w_tape w_words w_told_j_60) → va_S A s.heap H locs → ∀ ls : Array Slot, lv_has ls 3 [(0, .ref q_this)] → shX7_rules_j_60 v_salt v_dry v_rest v_kind v_which v_place w_tape w_words v_tapeSize_j_60 v_thrown_j_60 v_fault_j_60 v_faultPlace_j_60 v_end_j_60 w_told_j_60 = some o → W p l e rmX7_rules s m args below meth c H locs 0 0 Q (F0 m 60 ls []) := by
    intro v_tapeSize_j_60 v_thrown_j_60 v_fault_j_60 v_faultPlace_j_60 v_end_j_60 w_told_j_60 H locs hP hD hS ls hl hsh
    unfold shX7_rules_j_60 at hsh
    refine lv_aload_n hx hb dX7_rules_60 rfl (lv_at hl 0 rfl) ?_
    refine lv_iconst (v := (0 : Int32)) hx hb dX7_rules_61 (by decide) ?_
    refine kput (ci := 7) S hK hP hD hS rfl inX7_rules_X7 tyX7_ok nmX7 0 rfl 27 (by decide) lkX7_rules_100 rfl rfl rfl (Nat.le_of_ble_eq_true rfl) (ws' := (wdX7_rules cI cJ cZ q_this q_tape q_prior q_pipesIn q_pipe q_met q_chance q_rock q_people q_bad q_well q_ends q_runs q_way q_words q_told q_weight q_days q_depth q_bestDepth q_hopes q_planOf q_planDepth v_tapeSize_j_60 v_thrown_j_60 v_salt v_dry v_rest v_fault_j_60 v_faultPlace_j_60 v_rocks v_villages v_day v_at v_allPipes v_end_j_60 (0 : Int32) v_kind v_which v_place v_isPlan v_planMany v_planPipes v_planDays w_tape w_words w_told_j_60)) rfl dX7_rules_62 (fun H locs hP hD hS => ?_)
    refine lv_iconst (v := (0 : Int32)) hx hb dX7_rules_65 (by decide) ?_
    refine lv_istore_n (lv' := [(2, .int (0 : Int32)), (0, .ref q_this)]) hx hb dX7_rules_66 rfl hl (by decide) rfl (fun ls hl => ?_)
    refine lv_aload_n hx hb dX7_rules_67 rfl (lv_at hl 1 rfl) ?_
    obtain ⟨o_68, he, hsh⟩ := bd hsh
    refine kVv (ci := 7) S hK hA (ctX7_take l D cI cJ cZ q_this q_tape q_prior q_pipesIn q_pipe q_met q_chance q_rock q_people q_bad q_well q_ends q_runs q_way q_words q_told q_weight q_days q_depth q_bestDepth q_hopes q_planOf q_planDepth v_tapeSize_j_60 v_thrown_j_60 v_salt v_dry v_rest v_fault_j_60 v_faultPlace_j_60 v_rocks v_villages v_day v_at v_allPipes v_end_j_60 (0 : Int32) v_kind v_which v_place v_isPlan v_planMany v_planPipes v_planDays w_tape w_words o_68 he) noE_cl (cwV 0 hts gX7_rules_X7_take rfl rfl rfl hdX7_take ⟨Nat.le_of_ble_eq_true rfl, Nat.le_of_ble_eq_true rfl⟩) rfl 0 rfl [0, 1, 2] [3] [1, 2, 3, 0] (ws' := (wdX7_rules cI cJ cZ q_this q_tape q_prior q_pipesIn q_pipe q_met q_chance q_rock q_people q_bad q_well q_ends q_runs q_way q_words q_told q_weight q_days q_depth q_bestDepth q_hopes q_planOf q_planDepth v_tapeSize_j_60 v_thrown_j_60 v_salt v_dry v_rest v_fault_j_60 v_faultPlace_j_60 v_rocks v_villages v_day v_at v_allPipes v_end_j_60 o_68.1 o_68.2.1 o_68.2.2.1 o_68.2.2.2 v_isPlan v_planMany v_planPipes v_planDays w_tape w_words w_told_j_60)) ⟨rfl, rfl, rfl, rfl, rfl, rfl, rfl⟩ trivial rfl hl.1 rfl (Nat.le_of_ble_eq_true rfl) dX7_rules_68 hP hD hS (fun H locs hP hD hS => ?_)
    obtain ⟨r_71, hl_71, hk_71⟩ := bd hsh
    obtain ⟨n_71, hn_71⟩ := lp_iff.mp hl_71
    have L_71 : ∀ (n : Nat) (x2_71 : Int32) (v_fault_71 : Int32) (v_faultPlace_71 : Int32) (v_next_71 : Int32) (v_kind_71 : Int32) (v_which_71 : Int32) (v_place_71 : Int32) (w_told_71 : Nat → Int32) (H : Heap) (locs : List Loc), va_P D vwCl (wdX7_rules cI cJ cZ q_this q_tape q_prior q_pipesIn q_pipe q_met q_chance q_rock q_people q_bad q_well q_ends q_runs q_way q_words q_told q_weight q_days q_depth q_bestDepth q_hopes q_planOf q_planDepth v_tapeSize_j_60 v_thrown_j_60 v_salt v_dry v_rest v_fault_71 v_faultPlace_71 v_rocks v_villages v_day v_at v_allPipes v_end_j_60 v_next_71 v_kind_71 v_which_71 v_place_71 v_isPlan v_planMany v_planPipes v_planDays w_tape w_words w_told_71) H → va_D A (wdX7_rules cI cJ cZ q_this q_tape q_prior q_pipesIn q_pipe q_met q_chance q_rock q_people q_bad q_well q_ends q_runs q_way q_words q_told q_weight q_days q_depth q_bestDepth q_hopes q_planOf q_planDepth v_tapeSize_j_60 v_thrown_j_60 v_salt v_dry v_rest v_fault_71 v_faultPlace_71 v_rocks v_villages v_day v_at v_allPipes v_end_j_60 v_next_71 v_kind_71 v_which_71 v_place_71 v_isPlan v_planMany v_planPipes v_planDays w_tape w_words w_told_71) → va_S A s.heap H locs → ∀ ls : Array Slot, lv_has ls 3 [(0, .ref q_this), (2, .int x2_71)] → it (fun s : Int32 × Int32 × Int32 × Int32 × Int32 × Int32 × Int32 × (Nat → Int32) => shX7_rules_L71 w_tape w_words v_end_j_60 s.1 s.2.1 s.2.2.1 s.2.2.2.1 s.2.2.2.2.1 s.2.2.2.2.2.1 s.2.2.2.2.2.2.1 s.2.2.2.2.2.2.2) n (x2_71, v_fault_71, v_faultPlace_71, v_next_71, v_kind_71, v_which_71, v_place_71, w_told_71) = some r_71 → W p l e rmX7_rules s m args below meth c H locs 0 0 Q (F0 m 71 ls []) := by
      intro n
      induction n with
      | zero => exact fun _ _ _ _ _ _ _ _ _ _ _ _ _ _ _ hi => it_0 hi
      | succ n ih_71 =>
        intro x2_71 v_fault_71 v_faultPlace_71 v_next_71 v_kind_71 v_which_71 v_place_71 w_told_71 H locs hP hD hS ls hl hi
        obtain ⟨b_71, hsh, hB1_71, hB2_71⟩ := it_b hi
        replace hsh : shX7_rules_L71 w_tape w_words v_end_j_60 x2_71 v_fault_71 v_faultPlace_71 v_next_71 v_kind_71 v_which_71 v_place_71 w_told_71 = some b_71 := hsh
        unfold shX7_rules_L71 at hsh
        refine lv_aload_n hx hb dX7_rules_71 rfl (lv_at hl 0 rfl) ?_
        refine kget (ci := 7) S hK hP rfl inX7_rules_X7 0 rfl 28 (by decide) lkX7_rules_106 rfl dX7_rules_72 ?_
        refine lv_if_eq (tgt := 97) hx hb dX7_rules_75 (by decide) (fun c1 => ?_) (fun c1 => ?_)
        · skip
          have hsh := ite_t hsh c1
          have he := hB2_71 _ hsh
          rw [← he] at hk_71
          have hk_71 := se_r hk_71
          exact Jj_97 x2_71 v_tapeSize_j_60 v_thrown_j_60 v_fault_71 v_faultPlace_71 v_end_j_60 v_next_71 v_kind_71 v_which_71 v_place_71 w_told_71 H locs hP hD hS ls (lv_sub hl [0, 1] rfl) hk_71
        · skip
          have hsh := ite_f hsh c1
          refine lv_aload_n hx hb dX7_rules_78 rfl (lv_at hl 0 rfl) ?_
          obtain ⟨o_79, he, hsh⟩ := bd hsh
          refine kVi (ci := 7) S hK hA (ctX7_line l D cI cJ cZ q_this q_tape q_prior q_pipesIn q_pipe q_met q_chance q_rock q_people q_bad q_well q_ends q_runs q_way q_words q_told q_weight q_days q_depth q_bestDepth q_hopes q_planOf q_planDepth v_tapeSize_j_60 v_thrown_j_60 v_salt v_dry v_rest v_fault_71 v_faultPlace_71 v_rocks v_villages v_day v_at v_allPipes v_end_j_60 v_next_71 v_kind_71 v_which_71 v_place_71 v_isPlan v_planMany v_planPipes v_planDays w_tape w_words w_told_71 o_79 he) noE_cl (cwV 0 hts gX7_rules_X7_line rfl rfl rfl hdX7_line ⟨Nat.le_of_ble_eq_true rfl, Nat.le_of_ble_eq_true rfl⟩) rfl 0 rfl [0, 1, 2, 3] [] [0, 1, 2, 3] (ws' := (wdX7_rules cI cJ cZ q_this q_tape q_prior q_pipesIn q_pipe q_met q_chance q_rock q_people q_bad q_well q_ends q_runs q_way q_words q_told q_weight q_days q_depth q_bestDepth q_hopes q_planOf q_planDepth v_tapeSize_j_60 v_thrown_j_60 v_salt v_dry v_rest o_79.2.1 o_79.2.2.1 v_rocks v_villages v_day v_at v_allPipes v_end_j_60 o_79.2.2.2.1 o_79.2.2.2.2.1 o_79.2.2.2.2.2.1 o_79.2.2.2.2.2.2.1 v_isPlan v_planMany v_planPipes v_planDays w_tape w_words o_79.2.2.2.2.2.2.2)) ⟨rfl, rfl, rfl, rfl, rfl, rfl, rfl⟩ trivial rfl hl.1 rfl (Nat.le_of_ble_eq_true rfl) dX7_rules_79 hP hD hS (fun H locs hP hD hS => ?_)
          refine lv_if_ne (tgt := 87) hx hb dX7_rules_82 (by decide) (fun c1 => ?_) (fun c1 => ?_)
          · skip
            have hsh := ite_t hsh c1
            refine lv_iinc (v := (x2_71 + (1 : Int32))) (lv' := [(2, .int (x2_71 + (1 : Int32))), (0, .ref q_this)]) hx hb dX7_rules_87 hl (k := 1) rfl (congrArg (fun z : Int32 => x2_71 + z) (by decide)) (by decide) rfl (fun ls hl => ?_)
            refine lv_aload_n hx hb dX7_rules_90 rfl (lv_at hl 1 rfl) ?_
            obtain ⟨o_91, he, hsh⟩ := bd hsh
            refine kVv (ci := 7) S hK hA (ctX7_take l D cI cJ cZ q_this q_tape q_prior q_pipesIn q_pipe q_met q_chance q_rock q_people q_bad q_well q_ends q_runs q_way q_words q_told q_weight q_days q_depth q_bestDepth q_hopes q_planOf q_planDepth v_tapeSize_j_60 v_thrown_j_60 v_salt v_dry v_rest o_79.2.1 o_79.2.2.1 v_rocks v_villages v_day v_at v_allPipes v_end_j_60 o_79.2.2.2.1 o_79.2.2.2.2.1 o_79.2.2.2.2.2.1 o_79.2.2.2.2.2.2.1 v_isPlan v_planMany v_planPipes v_planDays w_tape w_words o_91 he) noE_cl (cwV 0 hts gX7_rules_X7_take rfl rfl rfl hdX7_take ⟨Nat.le_of_ble_eq_true rfl, Nat.le_of_ble_eq_true rfl⟩) rfl 0 rfl [0, 1, 2] [3] [1, 2, 3, 0] (ws' := (wdX7_rules cI cJ cZ q_this q_tape q_prior q_pipesIn q_pipe q_met q_chance q_rock q_people q_bad q_well q_ends q_runs q_way q_words q_told q_weight q_days q_depth q_bestDepth q_hopes q_planOf q_planDepth v_tapeSize_j_60 v_thrown_j_60 v_salt v_dry v_rest o_79.2.1 o_79.2.2.1 v_rocks v_villages v_day v_at v_allPipes v_end_j_60 o_91.1 o_91.2.1 o_91.2.2.1 o_91.2.2.2 v_isPlan v_planMany v_planPipes v_planDays w_tape w_words o_79.2.2.2.2.2.2.2)) ⟨rfl, rfl, rfl, rfl, rfl, rfl, rfl⟩ trivial rfl hl.1 rfl (Nat.le_of_ble_eq_true rfl) dX7_rules_91 hP hD hS (fun H locs hP hD hS => ?_)
            refine lv_goto (tgt := 71) hx hb dX7_rules_94 (by decide) ?_
            exact ih_71 (x2_71 + (1 : Int32)) o_79.2.1 o_79.2.2.1 o_91.1 o_91.2.1 o_91.2.2.1 o_91.2.2.2 o_79.2.2.2.2.2.2.2 H locs hP hD hS ls (lv_sub hl [1, 0] rfl) (hB1_71 _ hsh)
          · skip
            have hsh := ite_f hsh (fun h => h c1)
            have he := hB2_71 _ hsh
            rw [← he] at hk_71
            have hk_71 := se_l hk_71
            exact Jj_85 v_tapeSize_j_60 v_thrown_j_60 o_79.2.1 o_79.2.2.1 v_end_j_60 o_79.2.2.2.1 o_79.2.2.2.2.1 o_79.2.2.2.2.2.1 o_79.2.2.2.2.2.2.1 o_79.2.2.2.2.2.2.2 H locs hP hD hS ls (lv_sub hl [] rfl) hk_71
    exact L_71 n_71 (0 : Int32) v_fault_j_60 v_faultPlace_j_60 o_68.1 o_68.2.1 o_68.2.2.1 o_68.2.2.2 w_told_j_60 H locs hP hD hS ls (lv_sub hl [1, 0] rfl) hn_71
  refine lv_aload_n hx hb dX7_rules_0 rfl (lv_at hl 0 rfl) ?_
  refine lv_iconst (v := (0 : Int32)) hx hb dX7_rules_1 (by decide) ?_
  refine kput (ci := 7) S hK hP hD hS rfl inX7_rules_X7 tyX7_ok nmX7 0 rfl 2 (by decide) lkX7_rules_88 rfl rfl rfl (Nat.le_of_ble_eq_true rfl) (ws' := (wdX7_rules cI cJ cZ q_this q_tape q_prior q_pipesIn q_pipe q_met q_chance q_rock q_people q_bad q_well q_ends q_runs q_way q_words q_told q_weight q_days q_depth q_bestDepth q_hopes q_planOf q_planDepth v_tapeSize (0 : Int32) v_salt v_dry v_rest v_fault v_faultPlace v_rocks v_villages v_day v_at v_allPipes v_end v_next v_kind v_which v_place v_isPlan v_planMany v_planPipes v_planDays w_tape w_words w_told)) rfl dX7_rules_2 (fun H locs hP hD hS => ?_)
  refine lv_iload_n hx hb dX7_rules_5 rfl (lv_at hl 1 rfl) ?_
  refine lv_if_lt (tgt := 17) hx hb dX7_rules_6 (by decide) (fun c1 => ?_) (fun c1 => ?_)
  · skip
    have hsh := ite_t hsh c1
    refine lv_bipush (v := (-2 : Int32)) hx hb dX7_rules_17 (by decide) ?_
    have ho := Option.some.inj hsh
    rw [← ho] at hret
    exact hret _ _ _ _ dX7_rules_19 hP hD hS
  · skip
    have hsh := ite_f hsh c1
    refine lv_iload_n hx hb dX7_rules_9 rfl (lv_at hl 1 rfl) ?_
    refine lv_aload_n hx hb dX7_rules_10 rfl (lv_at hl 0 rfl) ?_
    refine kget (ci := 7) S hK hP rfl inX7_rules_X7 0 rfl 1 (by decide) lkX7_rules_91 rfl dX7_rules_11 ?_
    refine lv_icmp_le (tgt := 20) hx hb dX7_rules_14 (by decide) (fun c1 => ?_) (fun c1 => ?_)
    · skip
      have hsh := ite_t hsh c1
      refine lv_aload_n hx hb dX7_rules_20 rfl (lv_at hl 0 rfl) ?_
      refine lv_iload_n hx hb dX7_rules_21 rfl (lv_at hl 1 rfl) ?_
      refine kput (ci := 7) S hK hP hD hS rfl inX7_rules_X7 tyX7_ok nmX7 0 rfl 26 (by decide) lkX7_rules_97 rfl rfl rfl (Nat.le_of_ble_eq_true rfl) (ws' := (wdX7_rules cI cJ cZ q_this q_tape q_prior q_pipesIn q_pipe q_met q_chance q_rock q_people q_bad q_well q_ends q_runs q_way q_words q_told q_weight q_days q_depth q_bestDepth q_hopes q_planOf q_planDepth v_tapeSize (0 : Int32) v_salt v_dry v_rest v_fault v_faultPlace v_rocks v_villages v_day v_at v_allPipes a1 v_next v_kind v_which v_place v_isPlan v_planMany v_planPipes v_planDays w_tape w_words w_told)) rfl dX7_rules_22 (fun H locs hP hD hS => ?_)
      refine lv_aload_n hx hb dX7_rules_25 rfl (lv_at hl 0 rfl) ?_
      refine lv_iconst (v := (0 : Int32)) hx hb dX7_rules_26 (by decide) ?_
      refine kput (ci := 7) S hK hP hD hS rfl inX7_rules_X7 tyX7_ok nmX7 0 rfl 1 (by decide) lkX7_rules_91 rfl rfl rfl (Nat.le_of_ble_eq_true rfl) (ws' := (wdX7_rules cI cJ cZ q_this q_tape q_prior q_pipesIn q_pipe q_met q_chance q_rock q_people q_bad q_well q_ends q_runs q_way q_words q_told q_weight q_days q_depth q_bestDepth q_hopes q_planOf q_planDepth (0 : Int32) (0 : Int32) v_salt v_dry v_rest v_fault v_faultPlace v_rocks v_villages v_day v_at v_allPipes a1 v_next v_kind v_which v_place v_isPlan v_planMany v_planPipes v_planDays w_tape w_words w_told)) rfl dX7_rules_27 (fun H locs hP hD hS => ?_)
      refine lv_aload_n hx hb dX7_rules_30 rfl (lv_at hl 0 rfl) ?_
      refine lv_iconst (v := (0 : Int32)) hx hb dX7_rules_31 (by decide) ?_
      refine kput (ci := 7) S hK hP hD hS rfl inX7_rules_X7 tyX7_ok nmX7 0 rfl 6 (by decide) lkX7_rules_94 rfl rfl rfl (Nat.le_of_ble_eq_true rfl) (ws' := (wdX7_rules cI cJ cZ q_this q_tape q_prior q_pipesIn q_pipe q_met q_chance q_rock q_people q_bad q_well q_ends q_runs q_way q_words q_told q_weight q_days q_depth q_bestDepth q_hopes q_planOf q_planDepth (0 : Int32) (0 : Int32) v_salt v_dry v_rest (0 : Int32) v_faultPlace v_rocks v_villages v_day v_at v_allPipes a1 v_next v_kind v_which v_place v_isPlan v_planMany v_planPipes v_planDays w_tape w_words w_told)) rfl dX7_rules_32 (fun H locs hP hD hS => ?_)
      refine lv_aload_n hx hb dX7_rules_35 rfl (lv_at hl 0 rfl) ?_
      refine lv_iconst (v := (-1 : Int32)) hx hb dX7_rules_36 (by decide) ?_
      refine kput (ci := 7) S hK hP hD hS rfl inX7_rules_X7 tyX7_ok nmX7 0 rfl 7 (by decide) lkX7_rules_20 rfl rfl rfl (Nat.le_of_ble_eq_true rfl) (ws' := (wdX7_rules cI cJ cZ q_this q_tape q_prior q_pipesIn q_pipe q_met q_chance q_rock q_people q_bad q_well q_ends q_runs q_way q_words q_told q_weight q_days q_depth q_bestDepth q_hopes q_planOf q_planDepth (0 : Int32) (0 : Int32) v_salt v_dry v_rest (0 : Int32) (-1 : Int32) v_rocks v_villages v_day v_at v_allPipes a1 v_next v_kind v_which v_place v_isPlan v_planMany v_planPipes v_planDays w_tape w_words w_told)) rfl dX7_rules_37 (fun H locs hP hD hS => ?_)
      refine lv_iconst (v := (0 : Int32)) hx hb dX7_rules_40 (by decide) ?_
      refine lv_istore_n (lv' := [(2, .int (0 : Int32)), (0, .ref q_this), (1, .int a1)]) hx hb dX7_rules_41 rfl hl (by decide) rfl (fun ls hl => ?_)
      obtain ⟨r_42, hl_42, hk_42⟩ := bd hsh
      obtain ⟨n_42, hn_42⟩ := lp_iff.mp hl_42
      have L_42 : ∀ (n : Nat) (x2_42 : Int32) (w_told_42 : Nat → Int32) (H : Heap) (locs : List Loc), va_P D vwCl (wdX7_rules cI cJ cZ q_this q_tape q_prior q_pipesIn q_pipe q_met q_chance q_rock q_people q_bad q_well q_ends q_runs q_way q_words q_told q_weight q_days q_depth q_bestDepth q_hopes q_planOf q_planDepth (0 : Int32) (0 : Int32) v_salt v_dry v_rest (0 : Int32) (-1 : Int32) v_rocks v_villages v_day v_at v_allPipes a1 v_next v_kind v_which v_place v_isPlan v_planMany v_planPipes v_planDays w_tape w_words w_told_42) H → va_D A (wdX7_rules cI cJ cZ q_this q_tape q_prior q_pipesIn q_pipe q_met q_chance q_rock q_people q_bad q_well q_ends q_runs q_way q_words q_told q_weight q_days q_depth q_bestDepth q_hopes q_planOf q_planDepth (0 : Int32) (0 : Int32) v_salt v_dry v_rest (0 : Int32) (-1 : Int32) v_rocks v_villages v_day v_at v_allPipes a1 v_next v_kind v_which v_place v_isPlan v_planMany v_planPipes v_planDays w_tape w_words w_told_42) → va_S A s.heap H locs → ∀ ls : Array Slot, lv_has ls 3 [(0, .ref q_this), (2, .int x2_42)] → it (fun s : Int32 × (Nat → Int32) => shX7_rules_L42 s.1 s.2) n (x2_42, w_told_42) = some r_42 → W p l e rmX7_rules s m args below meth c H locs 0 0 Q (F0 m 42 ls []) := by
        intro n
        induction n with
        | zero => exact fun _ _ _ _ _ _ _ _ _ hi => it_0 hi
        | succ n ih_42 =>
          intro x2_42 w_told_42 H locs hP hD hS ls hl hi
          obtain ⟨b_42, hsh, hB1_42, hB2_42⟩ := it_b hi
          replace hsh : shX7_rules_L42 x2_42 w_told_42 = some b_42 := hsh
          unfold shX7_rules_L42 at hsh
          refine lv_iload_n hx hb dX7_rules_42 rfl (lv_at hl 1 rfl) ?_
          refine lv_iconst (v := (3 : Int32)) hx hb dX7_rules_43 (by decide) ?_
          refine lv_icmp_ge (tgt := 60) hx hb dX7_rules_44 (by decide) (fun c1 => ?_) (fun c1 => ?_)
          · skip
            have hsh := ite_t hsh c1
            have he := hB2_42 _ hsh
            rw [← he] at hk_42
            exact Jj_60 (0 : Int32) (0 : Int32) (0 : Int32) (-1 : Int32) a1 w_told_42 H locs hP hD hS ls (lv_sub hl [0] rfl) hk_42
          · skip
            have hsh := ite_f hsh c1
            refine lv_aload_n hx hb dX7_rules_47 rfl (lv_at hl 0 rfl) ?_
            refine kget (ci := 7) S hK hP rfl inX7_rules_X7 0 rfl 31 (by decide) lkX7_rules_63 rfl dX7_rules_48 ?_
            refine lv_iload_n hx hb dX7_rules_51 rfl (lv_at hl 1 rfl) ?_
            refine lv_iconst (v := (-1 : Int32)) hx hb dX7_rules_52 (by decide) ?_
            obtain ⟨_, hg, hsh⟩ := bd hsh
            refine kias S hK hP hD hS 3 0 rfl rfl (gd_in hg) (ws' := (wdX7_rules cI cJ cZ q_this q_tape q_prior q_pipesIn q_pipe q_met q_chance q_rock q_people q_bad q_well q_ends q_runs q_way q_words q_told q_weight q_days q_depth q_bestDepth q_hopes q_planOf q_planDepth (0 : Int32) (0 : Int32) v_salt v_dry v_rest (0 : Int32) (-1 : Int32) v_rocks v_villages v_day v_at v_allPipes a1 v_next v_kind v_which v_place v_isPlan v_planMany v_planPipes v_planDays w_tape w_words (upd w_told_42 (x2_42).toNatClampNeg (-1 : Int32)))) rfl dX7_rules_53 (fun H locs hP hD hS => ?_)
            refine lv_iinc (v := (x2_42 + (1 : Int32))) (lv' := [(2, .int (x2_42 + (1 : Int32))), (0, .ref q_this)]) hx hb dX7_rules_54 hl (k := 1) rfl (congrArg (fun z : Int32 => x2_42 + z) (by decide)) (by decide) rfl (fun ls hl => ?_)
            refine lv_goto (tgt := 42) hx hb dX7_rules_57 (by decide) ?_
            exact ih_42 (x2_42 + (1 : Int32)) (upd w_told_42 (x2_42).toNatClampNeg (-1 : Int32)) H locs hP hD hS ls (lv_sub hl [1, 0] rfl) (hB1_42 _ hsh)
      exact L_42 n_42 (0 : Int32) w_told H locs hP hD hS ls (lv_sub hl [1, 0] rfl) hn_42
    · skip
      have hsh := ite_f hsh c1
      refine lv_bipush (v := (-2 : Int32)) hx hb dX7_rules_17 (by decide) ?_
      have ho := Option.some.inj hsh
      rw [← ho] at hret
      exact hret _ _ _ _ dX7_rules_19 hP hD hS

/-! DryWellsModel.fault -/
noncomputable def shX7_fault (a1 : Int32) (v_thrown : Int32) (v_fault : Int32) (v_faultPlace : Int32) : Option (Int32 × Int32) :=
  (if ¬ a1 = 0 then (if ¬ a1 = (1 : Int32) then some ((-1 : Int32), (0 : Int32)) else some (v_faultPlace, (0 : Int32))) else some (v_fault, (0 : Int32)))
def wdX7_fault (cI cJ cZ : ClassId) (q_this q_tape q_prior q_pipesIn q_pipe q_met q_chance q_rock q_people q_bad q_well q_ends q_runs q_way q_words q_told q_weight q_days q_depth q_bestDepth q_hopes q_planOf q_planDepth : Nat) (v_tapeSize : Int32) (v_thrown : Int32) (v_salt : Int32) (v_dry : Int32) (v_rest : Int32) (v_fault : Int32) (v_faultPlace : Int32) (v_rocks : Int32) (v_villages : Int32) (v_day : Int32) (v_at : Int32) (v_allPipes : Int32) (v_end : Int32) (v_next : Int32) (v_kind : Int32) (v_which : Int32) (v_place : Int32) (v_isPlan : Int32) (v_planMany : Int32) (v_planPipes : Int32) (v_planDays : Int32) : va_W := [(q_this, .inr (7, [.ref q_tape, .int v_tapeSize, .int v_thrown, .int v_salt, .int v_dry, .int v_rest, .int v_fault, .int v_faultPlace, .int v_rocks, .ref q_prior, .ref q_pipesIn, .ref q_pipe, .ref q_met, .ref q_chance, .int v_villages, .ref q_rock, .ref q_people, .ref q_bad, .ref q_well, .ref q_ends, .ref q_runs, .ref q_way, .int v_day, .int v_at, .int v_allPipes, .ref q_words, .int v_end, .int v_next, .int v_kind, .int v_which, .int v_place, .ref q_told, .ref q_weight, .ref q_days, .ref q_depth, .ref q_bestDepth, .ref q_hopes, .int v_isPlan, .int v_planMany, .int v_planPipes, .int v_planDays, .ref q_planOf, .ref q_planDepth]))]
abbrev rmX7_fault : Room := { frames := 0, cells := 0, slots := 0, locals := 0 }
theorem inX7_fault_X7 : ∀ w ∈ u_ws RX7 TX7 43, w ∈ wsX7_fault := fun _ h => List.mem_cons_of_mem _ (List.mem_append_right _ h)
theorem lkX7_fault_88 : Cond.fieldLink RX7 88 (TX7 2).1 (TX7 2).2.1 (TX7 2).2.2.1 ∈ wsX7_fault := List.mem_of_getElem? (i := 1) rfl
theorem lkX7_fault_20 : Cond.fieldLink RX7 20 (TX7 7).1 (TX7 7).2.1 (TX7 7).2.2.1 ∈ wsX7_fault := List.mem_of_getElem? (i := 3) rfl
theorem lkX7_fault_94 : Cond.fieldLink RX7 94 (TX7 6).1 (TX7 6).2.1 (TX7 6).2.2.1 ∈ wsX7_fault := List.mem_of_getElem? (i := 2) rfl
theorem hdX7_fault : yX7_fault.cls = RX7 ∧ yX7_fault.cls ≠ "java/lang/invoke/MethodHandle" ∧ yX7_fault.cls ≠ "java/lang/invoke/VarHandle" ∧ (parseMethodDescriptor yX7_fault.desc).map (fun d => d.parameters.length) = some 1 := by decide +kernel
set_option maxHeartbeats 4000000 in
set_option maxRecDepth 100000 in
theorem ctX7_fault (l : Launch) (D : va_G) (cI cJ cZ : ClassId) (q_this q_tape q_prior q_pipesIn q_pipe q_met q_chance q_rock q_people q_bad q_well q_ends q_runs q_way q_words q_told q_weight q_days q_depth q_bestDepth q_hopes q_planOf q_planDepth : Nat) (v_tapeSize : Int32) (v_thrown : Int32) (v_salt : Int32) (v_dry : Int32) (v_rest : Int32) (v_fault : Int32) (v_faultPlace : Int32) (v_rocks : Int32) (v_villages : Int32) (v_day : Int32) (v_at : Int32) (v_allPipes : Int32) (v_end : Int32) (v_next : Int32) (v_kind : Int32) (v_which : Int32) (v_place : Int32) (v_isPlan : Int32) (v_planMany : Int32) (v_planPipes : Int32) (v_planDays : Int32) (a1 : Int32) (o : Int32 × Int32) (hsh : shX7_fault a1 v_thrown v_fault v_faultPlace = some o) : CtI l yX7_fault wsX7_fault rmX7_fault D (tys3 cI cJ cZ) noE (wdX7_fault cI cJ cZ q_this q_tape q_prior q_pipesIn q_pipe q_met q_chance q_rock q_people q_bad q_well q_ends q_runs q_way q_words q_told q_weight q_days q_depth q_bestDepth q_hopes q_planOf q_planDepth v_tapeSize v_thrown v_salt v_dry v_rest v_fault v_faultPlace v_rocks v_villages v_day v_at v_allPipes v_end v_next v_kind v_which v_place v_isPlan v_planMany v_planPipes v_planDays) [.ref q_this, .int a1] o.1 (wdX7_fault cI cJ cZ q_this q_tape q_prior q_pipesIn q_pipe q_met q_chance q_rock q_people q_bad q_well q_ends q_runs q_way q_words q_told q_weight q_days q_depth q_bestDepth q_hopes q_planOf q_planDepth v_tapeSize o.2 v_salt v_dry v_rest v_fault v_faultPlace v_rocks v_villages v_day v_at v_allPipes v_end v_next v_kind v_which v_place v_isPlan v_planMany v_planPipes v_planDays) := by
  refine ctI plX7 rfl (Nat.le_of_ble_eq_true rfl) ?_
  intro p e s m below meth c A Q S hK hA hE hret H locs hP hD hS ls hl
  replace S : CallFix p m c cX7_fault 2 s _ wsX7_fault RX7 := S
  generalize ([.ref q_this, .int a1] : List Value).toArray = args at S hret ⊢
  obtain ⟨hx, hb, hml, hown, hts⟩ := id S
  replace hl : lv_has ls 2 [(0, .ref q_this), (1, .int a1)] := hl
  unfold shX7_fault at hsh
  refine lv_aload_n hx hb dX7_fault_0 rfl (lv_at hl 0 rfl) ?_
  refine lv_iconst (v := (0 : Int32)) hx hb dX7_fault_1 (by decide) ?_
  refine kput (ci := 7) S hK hP hD hS rfl inX7_fault_X7 tyX7_ok nmX7 0 rfl 2 (by decide) lkX7_fault_88 rfl rfl rfl (Nat.le_of_ble_eq_true rfl) (ws' := (wdX7_fault cI cJ cZ q_this q_tape q_prior q_pipesIn q_pipe q_met q_chance q_rock q_people q_bad q_well q_ends q_runs q_way q_words q_told q_weight q_days q_depth q_bestDepth q_hopes q_planOf q_planDepth v_tapeSize (0 : Int32) v_salt v_dry v_rest v_fault v_faultPlace v_rocks v_villages v_day v_at v_allPipes v_end v_next v_kind v_which v_place v_isPlan v_planMany v_planPipes v_planDays)) rfl dX7_fault_2 (fun H locs hP hD hS => ?_)
  refine lv_iload_n hx hb dX7_fault_5 rfl (lv_at hl 1 rfl) ?_
  refine lv_if_ne (tgt := 16) hx hb dX7_fault_6 (by decide) (fun c1 => ?_) (fun c1 => ?_)
  · skip
    have hsh := ite_t hsh c1
    refine lv_iload_n hx hb dX7_fault_16 rfl (lv_at hl 1 rfl) ?_
    refine lv_iconst (v := (1 : Int32)) hx hb dX7_fault_17 (by decide) ?_
    refine lv_icmp_ne (tgt := 28) hx hb dX7_fault_18 (by decide) (fun c1 => ?_) (fun c1 => ?_)
    · skip
      have hsh := ite_t hsh c1
      refine lv_iconst (v := (-1 : Int32)) hx hb dX7_fault_28 (by decide) ?_
      have ho := Option.some.inj hsh
      rw [← ho] at hret
      exact hret _ _ _ _ dX7_fault_29 hP hD hS
    · skip
      have hsh := ite_f hsh (fun h => h c1)
      refine lv_aload_n hx hb dX7_fault_21 rfl (lv_at hl 0 rfl) ?_
      refine kget (ci := 7) S hK hP rfl inX7_fault_X7 0 rfl 7 (by decide) lkX7_fault_20 rfl dX7_fault_22 ?_
      refine lv_goto (tgt := 29) hx hb dX7_fault_25 (by decide) ?_
      have ho := Option.some.inj hsh
      rw [← ho] at hret
      exact hret _ _ _ _ dX7_fault_29 hP hD hS
  · skip
    have hsh := ite_f hsh (fun h => h c1)
    refine lv_aload_n hx hb dX7_fault_9 rfl (lv_at hl 0 rfl) ?_
    refine kget (ci := 7) S hK hP rfl inX7_fault_X7 0 rfl 6 (by decide) lkX7_fault_94 rfl dX7_fault_10 ?_
    refine lv_goto (tgt := 29) hx hb dX7_fault_13 (by decide) ?_
    have ho := Option.some.inj hsh
    rw [← ho] at hret
    exact hret _ _ _ _ dX7_fault_29 hP hD hS

/-! DryWellsModel.isPrior -/
noncomputable def shX7_isPrior (a0 : Int32) : Option (Int32) :=
  (if a0 < (1 : Int32) then some (0 : Int32) else (if (99 : Int32) < a0 then some (0 : Int32) else some (1 : Int32)))
def wdX7_isPrior (cI cJ cZ : ClassId)   : va_W := []
abbrev rmX7_isPrior : Room := { frames := 0, cells := 0, slots := 0, locals := 0 }
theorem hdX7_isPrior : yX7_isPrior.cls ≠ "java/lang/invoke/MethodHandle" ∧ yX7_isPrior.cls ≠ "java/lang/invoke/VarHandle" ∧ (parseMethodDescriptor yX7_isPrior.desc).map (fun d => d.parameters.length) = some 1 := by decide +kernel
set_option maxHeartbeats 4000000 in
set_option maxRecDepth 100000 in
theorem ctX7_isPrior (l : Launch) (D : va_G) (cI cJ cZ : ClassId)  (a0 : Int32) (o : Int32) (hsh : shX7_isPrior a0 = some o) : CtI l yX7_isPrior wsX7_isPrior rmX7_isPrior D (tys3 cI cJ cZ) noE (wdX7_isPrior cI cJ cZ ) [.int a0] o (wdX7_isPrior cI cJ cZ ) := by
  refine ctZ plX7 rfl (Nat.le_of_ble_eq_true rfl) ?_
  intro p e s m below meth c A Q S hK hA hE hret H locs hP hD hS ls hl
  replace S : CallFix p m c cX7_isPrior 1 s _ wsX7_isPrior RX7 := S
  generalize ([.int a0] : List Value).toArray = args at S hret ⊢
  obtain ⟨hx, hb, hml, hown, hts⟩ := id S
  replace hl : lv_has ls 1 [(0, .int a0)] := hl
  unfold shX7_isPrior at hsh
  refine lv_iload_n hx hb dX7_isPrior_0 rfl (lv_at hl 0 rfl) ?_
  refine lv_iconst (v := (1 : Int32)) hx hb dX7_isPrior_1 (by decide) ?_
  refine lv_icmp_lt (tgt := 15) hx hb dX7_isPrior_2 (by decide) (fun c1 => ?_) (fun c1 => ?_)
  · skip
    have hsh := ite_t hsh c1
    refine lv_iconst (v := (0 : Int32)) hx hb dX7_isPrior_15 (by decide) ?_
    have ho := Option.some.inj hsh
    rw [← ho] at hret
    exact hret _ _ _ _ nar0 dX7_isPrior_16 hP hD hS
  · skip
    have hsh := ite_f hsh c1
    refine lv_iload_n hx hb dX7_isPrior_5 rfl (lv_at hl 0 rfl) ?_
    refine lv_bipush (v := (99 : Int32)) hx hb dX7_isPrior_6 (by decide) ?_
    refine lv_icmp_gt (tgt := 15) hx hb dX7_isPrior_8 (by decide) (fun c1 => ?_) (fun c1 => ?_)
    · skip
      have hsh := ite_t hsh c1
      refine lv_iconst (v := (0 : Int32)) hx hb dX7_isPrior_15 (by decide) ?_
      have ho := Option.some.inj hsh
      rw [← ho] at hret
      exact hret _ _ _ _ nar0 dX7_isPrior_16 hP hD hS
    · skip
      have hsh := ite_f hsh c1
      refine lv_iconst (v := (1 : Int32)) hx hb dX7_isPrior_11 (by decide) ?_
      refine lv_goto (tgt := 16) hx hb dX7_isPrior_12 (by decide) ?_
      have ho := Option.some.inj hsh
      rw [← ho] at hret
      exact hret _ _ _ _ nar1 dX7_isPrior_16 hP hD hS

/-! DryWellsModel.rock -/
noncomputable def shX7_rock (a1 : Int32) (a2 : Int32) (a3 : Int32) (v_thrown : Int32) (v_rocks : Int32) (w_prior : Nat → Int32) (w_pipesIn : Nat → Int32) : Option (Int32 × Int32 × Int32 × (Nat → Int32) × (Nat → Int32)) :=
  (if v_rocks = (4 : Int32) then some ((-1 : Int32), (0 : Int32), v_rocks, w_prior, w_pipesIn) else ((shX7_isPrior a1).bind fun o_14 => (if o_14 = 0 then some ((-1 : Int32), (0 : Int32), v_rocks, w_prior, w_pipesIn) else ((shX7_isPrior a2).bind fun o_21 => (if o_21 = 0 then some ((-1 : Int32), (0 : Int32), v_rocks, w_prior, w_pipesIn) else ((shX7_isPrior a3).bind fun o_28 => (if ¬ o_28 = 0 then ((gd ((3 : Int32) * v_rocks) 12).bind fun _ => ((gd (((3 : Int32) * v_rocks) + (1 : Int32)) 12).bind fun _ => ((gd (((3 : Int32) * v_rocks) + (2 : Int32)) 12).bind fun _ => ((gd v_rocks 4).bind fun _ => some (((v_rocks + (1 : Int32)) - (1 : Int32)), (0 : Int32), (v_rocks + (1 : Int32)), (upd (upd (upd w_prior (((3 : Int32) * v_rocks)).toNatClampNeg a1) ((((3 : Int32) * v_rocks) + (1 : Int32))).toNatClampNeg a2) ((((3 : Int32) * v_rocks) + (2 : Int32))).toNatClampNeg a3), (upd w_pipesIn (v_rocks).toNatClampNeg (0 : Int32))))))) else some ((-1 : Int32), (0 : Int32), v_rocks, w_prior, w_pipesIn))))))))
def wdX7_rock (cI cJ cZ : ClassId) (q_this q_tape q_prior q_pipesIn q_pipe q_met q_chance q_rock q_people q_bad q_well q_ends q_runs q_way q_words q_told q_weight q_days q_depth q_bestDepth q_hopes q_planOf q_planDepth : Nat) (v_tapeSize : Int32) (v_thrown : Int32) (v_salt : Int32) (v_dry : Int32) (v_rest : Int32) (v_fault : Int32) (v_faultPlace : Int32) (v_rocks : Int32) (v_villages : Int32) (v_day : Int32) (v_at : Int32) (v_allPipes : Int32) (v_end : Int32) (v_next : Int32) (v_kind : Int32) (v_which : Int32) (v_place : Int32) (v_isPlan : Int32) (v_planMany : Int32) (v_planPipes : Int32) (v_planDays : Int32) (w_prior : Nat → Int32) (w_pipesIn : Nat → Int32) : va_W := [(q_this, .inr (7, [.ref q_tape, .int v_tapeSize, .int v_thrown, .int v_salt, .int v_dry, .int v_rest, .int v_fault, .int v_faultPlace, .int v_rocks, .ref q_prior, .ref q_pipesIn, .ref q_pipe, .ref q_met, .ref q_chance, .int v_villages, .ref q_rock, .ref q_people, .ref q_bad, .ref q_well, .ref q_ends, .ref q_runs, .ref q_way, .int v_day, .int v_at, .int v_allPipes, .ref q_words, .int v_end, .int v_next, .int v_kind, .int v_which, .int v_place, .ref q_told, .ref q_weight, .ref q_days, .ref q_depth, .ref q_bestDepth, .ref q_hopes, .int v_isPlan, .int v_planMany, .int v_planPipes, .int v_planDays, .ref q_planOf, .ref q_planDepth])), (q_prior, .inl (cI, 12, .inl w_prior)), (q_pipesIn, .inl (cI, 4, .inl w_pipesIn))]
abbrev rmX7_rock : Room := { frames := 1, cells := 0, slots := 0, locals := 20 }
theorem inX7_rock_X7 : ∀ w ∈ u_ws RX7 TX7 43, w ∈ wsX7_rock := fun _ h => List.mem_cons_of_mem _ (List.mem_append_right _ h)
theorem lkX7_rock_88 : Cond.fieldLink RX7 88 (TX7 2).1 (TX7 2).2.1 (TX7 2).2.2.1 ∈ wsX7_rock := List.mem_of_getElem? (i := 1) rfl
theorem lkX7_rock_137 : Cond.fieldLink RX7 137 (TX7 8).1 (TX7 8).2.1 (TX7 8).2.2.1 ∈ wsX7_rock := List.mem_of_getElem? (i := 2) rfl
theorem lkX7_rock_23 : Cond.fieldLink RX7 23 (TX7 9).1 (TX7 9).2.1 (TX7 9).2.2.1 ∈ wsX7_rock := List.mem_of_getElem? (i := 3) rfl
theorem lkX7_rock_26 : Cond.fieldLink RX7 26 (TX7 10).1 (TX7 10).2.1 (TX7 10).2.2.1 ∈ wsX7_rock := List.mem_of_getElem? (i := 4) rfl
theorem hdX7_rock : yX7_rock.cls = RX7 ∧ yX7_rock.cls ≠ "java/lang/invoke/MethodHandle" ∧ yX7_rock.cls ≠ "java/lang/invoke/VarHandle" ∧ (parseMethodDescriptor yX7_rock.desc).map (fun d => d.parameters.length) = some 3 := by decide +kernel
set_option maxHeartbeats 4000000 in
set_option maxRecDepth 100000 in
theorem ctX7_rock (l : Launch) (D : va_G) (cI cJ cZ : ClassId) (q_this q_tape q_prior q_pipesIn q_pipe q_met q_chance q_rock q_people q_bad q_well q_ends q_runs q_way q_words q_told q_weight q_days q_depth q_bestDepth q_hopes q_planOf q_planDepth : Nat) (v_tapeSize : Int32) (v_thrown : Int32) (v_salt : Int32) (v_dry : Int32) (v_rest : Int32) (v_fault : Int32) (v_faultPlace : Int32) (v_rocks : Int32) (v_villages : Int32) (v_day : Int32) (v_at : Int32) (v_allPipes : Int32) (v_end : Int32) (v_next : Int32) (v_kind : Int32) (v_which : Int32) (v_place : Int32) (v_isPlan : Int32) (v_planMany : Int32) (v_planPipes : Int32) (v_planDays : Int32) (w_prior : Nat → Int32) (w_pipesIn : Nat → Int32) (a1 : Int32) (a2 : Int32) (a3 : Int32) (o : Int32 × Int32 × Int32 × (Nat → Int32) × (Nat → Int32)) (hsh : shX7_rock a1 a2 a3 v_thrown v_rocks w_prior w_pipesIn = some o) : CtI l yX7_rock wsX7_rock rmX7_rock D (tys3 cI cJ cZ) noE (wdX7_rock cI cJ cZ q_this q_tape q_prior q_pipesIn q_pipe q_met q_chance q_rock q_people q_bad q_well q_ends q_runs q_way q_words q_told q_weight q_days q_depth q_bestDepth q_hopes q_planOf q_planDepth v_tapeSize v_thrown v_salt v_dry v_rest v_fault v_faultPlace v_rocks v_villages v_day v_at v_allPipes v_end v_next v_kind v_which v_place v_isPlan v_planMany v_planPipes v_planDays w_prior w_pipesIn) [.ref q_this, .int a1, .int a2, .int a3] o.1 (wdX7_rock cI cJ cZ q_this q_tape q_prior q_pipesIn q_pipe q_met q_chance q_rock q_people q_bad q_well q_ends q_runs q_way q_words q_told q_weight q_days q_depth q_bestDepth q_hopes q_planOf q_planDepth v_tapeSize o.2.1 v_salt v_dry v_rest v_fault v_faultPlace o.2.2.1 v_villages v_day v_at v_allPipes v_end v_next v_kind v_which v_place v_isPlan v_planMany v_planPipes v_planDays o.2.2.2.1 o.2.2.2.2) := by
  refine ctI plX7 rfl (Nat.le_of_ble_eq_true rfl) ?_
  intro p e s m below meth c A Q S hK hA hE hret H locs hP hD hS ls hl
  replace S : CallFix p m c cX7_rock 4 s _ wsX7_rock RX7 := S
  generalize ([.ref q_this, .int a1, .int a2, .int a3] : List Value).toArray = args at S hret ⊢
  obtain ⟨hx, hb, hml, hown, hts⟩ := id S
  replace hl : lv_has ls 4 [(0, .ref q_this), (1, .int a1), (2, .int a2), (3, .int a3)] := hl
  unfold shX7_rock at hsh
  refine lv_aload_n hx hb dX7_rock_0 rfl (lv_at hl 0 rfl) ?_
  refine lv_iconst (v := (0 : Int32)) hx hb dX7_rock_1 (by decide) ?_
  refine kput (ci := 7) S hK hP hD hS rfl inX7_rock_X7 tyX7_ok nmX7 0 rfl 2 (by decide) lkX7_rock_88 rfl rfl rfl (Nat.le_of_ble_eq_true rfl) (ws' := (wdX7_rock cI cJ cZ q_this q_tape q_prior q_pipesIn q_pipe q_met q_chance q_rock q_people q_bad q_well q_ends q_runs q_way q_words q_told q_weight q_days q_depth q_bestDepth q_hopes q_planOf q_planDepth v_tapeSize (0 : Int32) v_salt v_dry v_rest v_fault v_faultPlace v_rocks v_villages v_day v_at v_allPipes v_end v_next v_kind v_which v_place v_isPlan v_planMany v_planPipes v_planDays w_prior w_pipesIn)) rfl dX7_rock_2 (fun H locs hP hD hS => ?_)
  refine lv_aload_n hx hb dX7_rock_5 rfl (lv_at hl 0 rfl) ?_
  refine kget (ci := 7) S hK hP rfl inX7_rock_X7 0 rfl 8 (by decide) lkX7_rock_137 rfl dX7_rock_6 ?_
  refine lv_iconst (v := (4 : Int32)) hx hb dX7_rock_9 (by decide) ?_
  refine lv_icmp_eq (tgt := 34) hx hb dX7_rock_10 (by decide) (fun c1 => ?_) (fun c1 => ?_)
  · skip
    have hsh := ite_t hsh c1
    refine lv_iconst (v := (-1 : Int32)) hx hb dX7_rock_34 (by decide) ?_
    have ho := Option.some.inj hsh
    rw [← ho] at hret
    exact hret _ _ _ _ dX7_rock_35 hP hD hS
  · skip
    have hsh := ite_f hsh c1
    refine lv_iload_n hx hb dX7_rock_13 rfl (lv_at hl 1 rfl) ?_
    obtain ⟨o_14, he, hsh⟩ := bd hsh
    refine kSi S hK hA (ctX7_isPrior l D cI cJ cZ a1 o_14 he) noE_cl (va_cwS 1 hts gX7_rock_X7_isPrior rfl rfl rfl hdX7_isPrior ⟨Nat.le_of_ble_eq_true rfl, Nat.le_of_ble_eq_true rfl⟩) [] [0, 1, 2] [0, 1, 2] (ws' := (wdX7_rock cI cJ cZ q_this q_tape q_prior q_pipesIn q_pipe q_met q_chance q_rock q_people q_bad q_well q_ends q_runs q_way q_words q_told q_weight q_days q_depth q_bestDepth q_hopes q_planOf q_planDepth v_tapeSize (0 : Int32) v_salt v_dry v_rest v_fault v_faultPlace v_rocks v_villages v_day v_at v_allPipes v_end v_next v_kind v_which v_place v_isPlan v_planMany v_planPipes v_planDays w_prior w_pipesIn)) ⟨rfl, rfl, rfl, rfl, rfl, rfl, rfl⟩ trivial rfl hl.1 rfl (Nat.le_of_ble_eq_true rfl) dX7_rock_14 hP hD hS (fun H locs hP hD hS => ?_)
    refine lv_if_eq (tgt := 34) hx hb dX7_rock_17 (by decide) (fun c1 => ?_) (fun c1 => ?_)
    · skip
      have hsh := ite_t hsh c1
      refine lv_iconst (v := (-1 : Int32)) hx hb dX7_rock_34 (by decide) ?_
      have ho := Option.some.inj hsh
      rw [← ho] at hret
      exact hret _ _ _ _ dX7_rock_35 hP hD hS
    · skip
      have hsh := ite_f hsh c1
      refine lv_iload_n hx hb dX7_rock_20 rfl (lv_at hl 2 rfl) ?_
      obtain ⟨o_21, he, hsh⟩ := bd hsh
      refine kSi S hK hA (ctX7_isPrior l D cI cJ cZ a2 o_21 he) noE_cl (va_cwS 1 hts gX7_rock_X7_isPrior rfl rfl rfl hdX7_isPrior ⟨Nat.le_of_ble_eq_true rfl, Nat.le_of_ble_eq_true rfl⟩) [] [0, 1, 2] [0, 1, 2] (ws' := (wdX7_rock cI cJ cZ q_this q_tape q_prior q_pipesIn q_pipe q_met q_chance q_rock q_people q_bad q_well q_ends q_runs q_way q_words q_told q_weight q_days q_depth q_bestDepth q_hopes q_planOf q_planDepth v_tapeSize (0 : Int32) v_salt v_dry v_rest v_fault v_faultPlace v_rocks v_villages v_day v_at v_allPipes v_end v_next v_kind v_which v_place v_isPlan v_planMany v_planPipes v_planDays w_prior w_pipesIn)) ⟨rfl, rfl, rfl, rfl, rfl, rfl, rfl⟩ trivial rfl hl.1 rfl (Nat.le_of_ble_eq_true rfl) dX7_rock_21 hP hD hS (fun H locs hP hD hS => ?_)
      refine lv_if_eq (tgt := 34) hx hb dX7_rock_24 (by decide) (fun c1 => ?_) (fun c1 => ?_)
      · skip
        have hsh := ite_t hsh c1
        refine lv_iconst (v := (-1 : Int32)) hx hb dX7_rock_34 (by decide) ?_
        have ho := Option.some.inj hsh
        rw [← ho] at hret
        exact hret _ _ _ _ dX7_rock_35 hP hD hS
      · skip
        have hsh := ite_f hsh c1
        refine lv_iload_n hx hb dX7_rock_27 rfl (lv_at hl 3 rfl) ?_
        obtain ⟨o_28, he, hsh⟩ := bd hsh
        refine kSi S hK hA (ctX7_isPrior l D cI cJ cZ a3 o_28 he) noE_cl (va_cwS 1 hts gX7_rock_X7_isPrior rfl rfl rfl hdX7_isPrior ⟨Nat.le_of_ble_eq_true rfl, Nat.le_of_ble_eq_true rfl⟩) [] [0, 1, 2] [0, 1, 2] (ws' := (wdX7_rock cI cJ cZ q_this q_tape q_prior q_pipesIn q_pipe q_met q_chance q_rock q_people q_bad q_well q_ends q_runs q_way q_words q_told q_weight q_days q_depth q_bestDepth q_hopes q_planOf q_planDepth v_tapeSize (0 : Int32) v_salt v_dry v_rest v_fault v_faultPlace v_rocks v_villages v_day v_at v_allPipes v_end v_next v_kind v_which v_place v_isPlan v_planMany v_planPipes v_planDays w_prior w_pipesIn)) ⟨rfl, rfl, rfl, rfl, rfl, rfl, rfl⟩ trivial rfl hl.1 rfl (Nat.le_of_ble_eq_true rfl) dX7_rock_28 hP hD hS (fun H locs hP hD hS => ?_)
        refine lv_if_ne (tgt := 36) hx hb dX7_rock_31 (by decide) (fun c1 => ?_) (fun c1 => ?_)
        · skip
          have hsh := ite_t hsh c1
          refine lv_aload_n hx hb dX7_rock_36 rfl (lv_at hl 0 rfl) ?_
          refine kget (ci := 7) S hK hP rfl inX7_rock_X7 0 rfl 9 (by decide) lkX7_rock_23 rfl dX7_rock_37 ?_
          refine lv_iconst (v := (3 : Int32)) hx hb dX7_rock_40 (by decide) ?_
          refine lv_aload_n hx hb dX7_rock_41 rfl (lv_at hl 0 rfl) ?_
          refine kget (ci := 7) S hK hP rfl inX7_rock_X7 0 rfl 8 (by decide) lkX7_rock_137 rfl dX7_rock_42 ?_
          refine lv_imul hx hb dX7_rock_45 ?_
          refine lv_iload_n hx hb dX7_rock_46 rfl (lv_at hl 1 rfl) ?_
          obtain ⟨_, hg, hsh⟩ := bd hsh
          refine kias S hK hP hD hS 1 0 rfl rfl (gd_in hg) (ws' := (wdX7_rock cI cJ cZ q_this q_tape q_prior q_pipesIn q_pipe q_met q_chance q_rock q_people q_bad q_well q_ends q_runs q_way q_words q_told q_weight q_days q_depth q_bestDepth q_hopes q_planOf q_planDepth v_tapeSize (0 : Int32) v_salt v_dry v_rest v_fault v_faultPlace v_rocks v_villages v_day v_at v_allPipes v_end v_next v_kind v_which v_place v_isPlan v_planMany v_planPipes v_planDays (upd w_prior (((3 : Int32) * v_rocks)).toNatClampNeg a1) w_pipesIn)) rfl dX7_rock_47 (fun H locs hP hD hS => ?_)
          refine lv_aload_n hx hb dX7_rock_48 rfl (lv_at hl 0 rfl) ?_
          refine kget (ci := 7) S hK hP rfl inX7_rock_X7 0 rfl 9 (by decide) lkX7_rock_23 rfl dX7_rock_49 ?_
          refine lv_iconst (v := (3 : Int32)) hx hb dX7_rock_52 (by decide) ?_
          refine lv_aload_n hx hb dX7_rock_53 rfl (lv_at hl 0 rfl) ?_
          refine kget (ci := 7) S hK hP rfl inX7_rock_X7 0 rfl 8 (by decide) lkX7_rock_137 rfl dX7_rock_54 ?_
          refine lv_imul hx hb dX7_rock_57 ?_
          refine lv_iconst (v := (1 : Int32)) hx hb dX7_rock_58 (by decide) ?_
          refine lv_iadd hx hb dX7_rock_59 ?_
          refine lv_iload_n hx hb dX7_rock_60 rfl (lv_at hl 2 rfl) ?_
          obtain ⟨_, hg, hsh⟩ := bd hsh
          refine kias S hK hP hD hS 1 0 rfl rfl (gd_in hg) (ws' := (wdX7_rock cI cJ cZ q_this q_tape q_prior q_pipesIn q_pipe q_met q_chance q_rock q_people q_bad q_well q_ends q_runs q_way q_words q_told q_weight q_days q_depth q_bestDepth q_hopes q_planOf q_planDepth v_tapeSize (0 : Int32) v_salt v_dry v_rest v_fault v_faultPlace v_rocks v_villages v_day v_at v_allPipes v_end v_next v_kind v_which v_place v_isPlan v_planMany v_planPipes v_planDays (upd (upd w_prior (((3 : Int32) * v_rocks)).toNatClampNeg a1) ((((3 : Int32) * v_rocks) + (1 : Int32))).toNatClampNeg a2) w_pipesIn)) rfl dX7_rock_61 (fun H locs hP hD hS => ?_)
          refine lv_aload_n hx hb dX7_rock_62 rfl (lv_at hl 0 rfl) ?_
          refine kget (ci := 7) S hK hP rfl inX7_rock_X7 0 rfl 9 (by decide) lkX7_rock_23 rfl dX7_rock_63 ?_
          refine lv_iconst (v := (3 : Int32)) hx hb dX7_rock_66 (by decide) ?_
          refine lv_aload_n hx hb dX7_rock_67 rfl (lv_at hl 0 rfl) ?_
          refine kget (ci := 7) S hK hP rfl inX7_rock_X7 0 rfl 8 (by decide) lkX7_rock_137 rfl dX7_rock_68 ?_
          refine lv_imul hx hb dX7_rock_71 ?_
          refine lv_iconst (v := (2 : Int32)) hx hb dX7_rock_72 (by decide) ?_
          refine lv_iadd hx hb dX7_rock_73 ?_
          refine lv_iload_n hx hb dX7_rock_74 rfl (lv_at hl 3 rfl) ?_
          obtain ⟨_, hg, hsh⟩ := bd hsh
          refine kias S hK hP hD hS 1 0 rfl rfl (gd_in hg) (ws' := (wdX7_rock cI cJ cZ q_this q_tape q_prior q_pipesIn q_pipe q_met q_chance q_rock q_people q_bad q_well q_ends q_runs q_way q_words q_told q_weight q_days q_depth q_bestDepth q_hopes q_planOf q_planDepth v_tapeSize (0 : Int32) v_salt v_dry v_rest v_fault v_faultPlace v_rocks v_villages v_day v_at v_allPipes v_end v_next v_kind v_which v_place v_isPlan v_planMany v_planPipes v_planDays (upd (upd (upd w_prior (((3 : Int32) * v_rocks)).toNatClampNeg a1) ((((3 : Int32) * v_rocks) + (1 : Int32))).toNatClampNeg a2) ((((3 : Int32) * v_rocks) + (2 : Int32))).toNatClampNeg a3) w_pipesIn)) rfl dX7_rock_75 (fun H locs hP hD hS => ?_)
          refine lv_aload_n hx hb dX7_rock_76 rfl (lv_at hl 0 rfl) ?_
          refine kget (ci := 7) S hK hP rfl inX7_rock_X7 0 rfl 10 (by decide) lkX7_rock_26 rfl dX7_rock_77 ?_
          refine lv_aload_n hx hb dX7_rock_80 rfl (lv_at hl 0 rfl) ?_
          refine kget (ci := 7) S hK hP rfl inX7_rock_X7 0 rfl 8 (by decide) lkX7_rock_137 rfl dX7_rock_81 ?_
          refine lv_iconst (v := (0 : Int32)) hx hb dX7_rock_84 (by decide) ?_
          obtain ⟨_, hg, hsh⟩ := bd hsh
          refine kias S hK hP hD hS 2 0 rfl rfl (gd_in hg) (ws' := (wdX7_rock cI cJ cZ q_this q_tape q_prior q_pipesIn q_pipe q_met q_chance q_rock q_people q_bad q_well q_ends q_runs q_way q_words q_told q_weight q_days q_depth q_bestDepth q_hopes q_planOf q_planDepth v_tapeSize (0 : Int32) v_salt v_dry v_rest v_fault v_faultPlace v_rocks v_villages v_day v_at v_allPipes v_end v_next v_kind v_which v_place v_isPlan v_planMany v_planPipes v_planDays (upd (upd (upd w_prior (((3 : Int32) * v_rocks)).toNatClampNeg a1) ((((3 : Int32) * v_rocks) + (1 : Int32))).toNatClampNeg a2) ((((3 : Int32) * v_rocks) + (2 : Int32))).toNatClampNeg a3) (upd w_pipesIn (v_rocks).toNatClampNeg (0 : Int32)))) rfl dX7_rock_85 (fun H locs hP hD hS => ?_)
          refine lv_aload_n hx hb dX7_rock_86 rfl (lv_at hl 0 rfl) ?_
          refine lv_dup hx hb dX7_rock_87 rfl ?_
          refine kget (ci := 7) S hK hP rfl inX7_rock_X7 0 rfl 8 (by decide) lkX7_rock_137 rfl dX7_rock_88 ?_
          refine lv_iconst (v := (1 : Int32)) hx hb dX7_rock_91 (by decide) ?_
          refine lv_iadd hx hb dX7_rock_92 ?_
          refine kput (ci := 7) S hK hP hD hS rfl inX7_rock_X7 tyX7_ok nmX7 0 rfl 8 (by decide) lkX7_rock_137 rfl rfl rfl (Nat.le_of_ble_eq_true rfl) (ws' := (wdX7_rock cI cJ cZ q_this q_tape q_prior q_pipesIn q_pipe q_met q_chance q_rock q_people q_bad q_well q_ends q_runs q_way q_words q_told q_weight q_days q_depth q_bestDepth q_hopes q_planOf q_planDepth v_tapeSize (0 : Int32) v_salt v_dry v_rest v_fault v_faultPlace (v_rocks + (1 : Int32)) v_villages v_day v_at v_allPipes v_end v_next v_kind v_which v_place v_isPlan v_planMany v_planPipes v_planDays (upd (upd (upd w_prior (((3 : Int32) * v_rocks)).toNatClampNeg a1) ((((3 : Int32) * v_rocks) + (1 : Int32))).toNatClampNeg a2) ((((3 : Int32) * v_rocks) + (2 : Int32))).toNatClampNeg a3) (upd w_pipesIn (v_rocks).toNatClampNeg (0 : Int32)))) rfl dX7_rock_93 (fun H locs hP hD hS => ?_)
          refine lv_aload_n hx hb dX7_rock_96 rfl (lv_at hl 0 rfl) ?_
          refine kget (ci := 7) S hK hP rfl inX7_rock_X7 0 rfl 8 (by decide) lkX7_rock_137 rfl dX7_rock_97 ?_
          refine lv_iconst (v := (1 : Int32)) hx hb dX7_rock_100 (by decide) ?_
          refine lv_isub hx hb dX7_rock_101 ?_
          have ho := Option.some.inj hsh
          rw [← ho] at hret
          exact hret _ _ _ _ dX7_rock_102 hP hD hS
        · skip
          have hsh := ite_f hsh (fun h => h c1)
          refine lv_iconst (v := (-1 : Int32)) hx hb dX7_rock_34 (by decide) ?_
          have ho := Option.some.inj hsh
          rw [← ho] at hret
          exact hret _ _ _ _ dX7_rock_35 hP hD hS

/-! DryWellsModel.chance -/
noncomputable def shX7_chance (a1 : Int32) (a2 : Int32) (a3 : Int32) (v_thrown : Int32) (w_chance : Nat → Int32) : Option (Int32 × Int32 × (Nat → Int32)) :=
  (if a1 < 0 then some ((0 : Int32), (0 : Int32), w_chance) else (if (2 : Int32) < a1 then some ((0 : Int32), (0 : Int32), w_chance) else (if a2 < (1 : Int32) then some ((0 : Int32), (0 : Int32), w_chance) else (if (4 : Int32) < a2 then some ((0 : Int32), (0 : Int32), w_chance) else (if a3 < 0 then some ((0 : Int32), (0 : Int32), w_chance) else (if a3 ≤ (15 : Int32) then ((gd (((5 : Int32) * a1) + a2) 15).bind fun _ => some ((1 : Int32), (0 : Int32), (upd w_chance ((((5 : Int32) * a1) + a2)).toNatClampNeg a3))) else some ((0 : Int32), (0 : Int32), w_chance)))))))
def wdX7_chance (cI cJ cZ : ClassId) (q_this q_tape q_prior q_pipesIn q_pipe q_met q_chance q_rock q_people q_bad q_well q_ends q_runs q_way q_words q_told q_weight q_days q_depth q_bestDepth q_hopes q_planOf q_planDepth : Nat) (v_tapeSize : Int32) (v_thrown : Int32) (v_salt : Int32) (v_dry : Int32) (v_rest : Int32) (v_fault : Int32) (v_faultPlace : Int32) (v_rocks : Int32) (v_villages : Int32) (v_day : Int32) (v_at : Int32) (v_allPipes : Int32) (v_end : Int32) (v_next : Int32) (v_kind : Int32) (v_which : Int32) (v_place : Int32) (v_isPlan : Int32) (v_planMany : Int32) (v_planPipes : Int32) (v_planDays : Int32) (w_chance : Nat → Int32) : va_W := [(q_this, .inr (7, [.ref q_tape, .int v_tapeSize, .int v_thrown, .int v_salt, .int v_dry, .int v_rest, .int v_fault, .int v_faultPlace, .int v_rocks, .ref q_prior, .ref q_pipesIn, .ref q_pipe, .ref q_met, .ref q_chance, .int v_villages, .ref q_rock, .ref q_people, .ref q_bad, .ref q_well, .ref q_ends, .ref q_runs, .ref q_way, .int v_day, .int v_at, .int v_allPipes, .ref q_words, .int v_end, .int v_next, .int v_kind, .int v_which, .int v_place, .ref q_told, .ref q_weight, .ref q_days, .ref q_depth, .ref q_bestDepth, .ref q_hopes, .int v_isPlan, .int v_planMany, .int v_planPipes, .int v_planDays, .ref q_planOf, .ref q_planDepth])), (q_chance, .inl (cI, 15, .inl w_chance))]
abbrev rmX7_chance : Room := { frames := 0, cells := 0, slots := 0, locals := 0 }
theorem inX7_chance_X7 : ∀ w ∈ u_ws RX7 TX7 43, w ∈ wsX7_chance := fun _ h => List.mem_cons_of_mem _ (List.mem_append_right _ h)
theorem lkX7_chance_88 : Cond.fieldLink RX7 88 (TX7 2).1 (TX7 2).2.1 (TX7 2).2.2.1 ∈ wsX7_chance := List.mem_of_getElem? (i := 1) rfl
theorem lkX7_chance_36 : Cond.fieldLink RX7 36 (TX7 13).1 (TX7 13).2.1 (TX7 13).2.2.1 ∈ wsX7_chance := List.mem_of_getElem? (i := 2) rfl
theorem hdX7_chance : yX7_chance.cls = RX7 ∧ yX7_chance.cls ≠ "java/lang/invoke/MethodHandle" ∧ yX7_chance.cls ≠ "java/lang/invoke/VarHandle" ∧ (parseMethodDescriptor yX7_chance.desc).map (fun d => d.parameters.length) = some 3 := by decide +kernel
set_option maxHeartbeats 4000000 in
set_option maxRecDepth 100000 in
theorem ctX7_chance (l : Launch) (D : va_G) (cI cJ cZ : ClassId) (q_this q_tape q_prior q_pipesIn q_pipe q_met q_chance q_rock q_people q_bad q_well q_ends q_runs q_way q_words q_told q_weight q_days q_depth q_bestDepth q_hopes q_planOf q_planDepth : Nat) (v_tapeSize : Int32) (v_thrown : Int32) (v_salt : Int32) (v_dry : Int32) (v_rest : Int32) (v_fault : Int32) (v_faultPlace : Int32) (v_rocks : Int32) (v_villages : Int32) (v_day : Int32) (v_at : Int32) (v_allPipes : Int32) (v_end : Int32) (v_next : Int32) (v_kind : Int32) (v_which : Int32) (v_place : Int32) (v_isPlan : Int32) (v_planMany : Int32) (v_planPipes : Int32) (v_planDays : Int32) (w_chance : Nat → Int32) (a1 : Int32) (a2 : Int32) (a3 : Int32) (o : Int32 × Int32 × (Nat → Int32)) (hsh : shX7_chance a1 a2 a3 v_thrown w_chance = some o) : CtI l yX7_chance wsX7_chance rmX7_chance D (tys3 cI cJ cZ) noE (wdX7_chance cI cJ cZ q_this q_tape q_prior q_pipesIn q_pipe q_met q_chance q_rock q_people q_bad q_well q_ends q_runs q_way q_words q_told q_weight q_days q_depth q_bestDepth q_hopes q_planOf q_planDepth v_tapeSize v_thrown v_salt v_dry v_rest v_fault v_faultPlace v_rocks v_villages v_day v_at v_allPipes v_end v_next v_kind v_which v_place v_isPlan v_planMany v_planPipes v_planDays w_chance) [.ref q_this, .int a1, .int a2, .int a3] o.1 (wdX7_chance cI cJ cZ q_this q_tape q_prior q_pipesIn q_pipe q_met q_chance q_rock q_people q_bad q_well q_ends q_runs q_way q_words q_told q_weight q_days q_depth q_bestDepth q_hopes q_planOf q_planDepth v_tapeSize o.2.1 v_salt v_dry v_rest v_fault v_faultPlace v_rocks v_villages v_day v_at v_allPipes v_end v_next v_kind v_which v_place v_isPlan v_planMany v_planPipes v_planDays o.2.2) := by
  refine ctZ plX7 rfl (Nat.le_of_ble_eq_true rfl) ?_
  intro p e s m below meth c A Q S hK hA hE hret H locs hP hD hS ls hl
  replace S : CallFix p m c cX7_chance 4 s _ wsX7_chance RX7 := S
  generalize ([.ref q_this, .int a1, .int a2, .int a3] : List Value).toArray = args at S hret ⊢
  obtain ⟨hx, hb, hml, hown, hts⟩ := id S
  replace hl : lv_has ls 4 [(0, .ref q_this), (1, .int a1), (2, .int a2), (3, .int a3)] := hl
  unfold shX7_chance at hsh
  refine lv_aload_n hx hb dX7_chance_0 rfl (lv_at hl 0 rfl) ?_
  refine lv_iconst (v := (0 : Int32)) hx hb dX7_chance_1 (by decide) ?_
  refine kput (ci := 7) S hK hP hD hS rfl inX7_chance_X7 tyX7_ok nmX7 0 rfl 2 (by decide) lkX7_chance_88 rfl rfl rfl (Nat.le_of_ble_eq_true rfl) (ws' := (wdX7_chance cI cJ cZ q_this q_tape q_prior q_pipesIn q_pipe q_met q_chance q_rock q_people q_bad q_well q_ends q_runs q_way q_words q_told q_weight q_days q_depth q_bestDepth q_hopes q_planOf q_planDepth v_tapeSize (0 : Int32) v_salt v_dry v_rest v_fault v_faultPlace v_rocks v_villages v_day v_at v_allPipes v_end v_next v_kind v_which v_place v_isPlan v_planMany v_planPipes v_planDays w_chance)) rfl dX7_chance_2 (fun H locs hP hD hS => ?_)
  refine lv_iload_n hx hb dX7_chance_5 rfl (lv_at hl 1 rfl) ?_
  refine lv_if_lt (tgt := 34) hx hb dX7_chance_6 (by decide) (fun c1 => ?_) (fun c1 => ?_)
  · skip
    have hsh := ite_t hsh c1
    refine lv_iconst (v := (0 : Int32)) hx hb dX7_chance_34 (by decide) ?_
    have ho := Option.some.inj hsh
    rw [← ho] at hret
    exact hret _ _ _ _ nar0 dX7_chance_35 hP hD hS
  · skip
    have hsh := ite_f hsh c1
    refine lv_iload_n hx hb dX7_chance_9 rfl (lv_at hl 1 rfl) ?_
    refine lv_iconst (v := (2 : Int32)) hx hb dX7_chance_10 (by decide) ?_
    refine lv_icmp_gt (tgt := 34) hx hb dX7_chance_11 (by decide) (fun c1 => ?_) (fun c1 => ?_)
    · skip
      have hsh := ite_t hsh c1
      refine lv_iconst (v := (0 : Int32)) hx hb dX7_chance_34 (by decide) ?_
      have ho := Option.some.inj hsh
      rw [← ho] at hret
      exact hret _ _ _ _ nar0 dX7_chance_35 hP hD hS
    · skip
      have hsh := ite_f hsh c1
      refine lv_iload_n hx hb dX7_chance_14 rfl (lv_at hl 2 rfl) ?_
      refine lv_iconst (v := (1 : Int32)) hx hb dX7_chance_15 (by decide) ?_
      refine lv_icmp_lt (tgt := 34) hx hb dX7_chance_16 (by decide) (fun c1 => ?_) (fun c1 => ?_)
      · skip
        have hsh := ite_t hsh c1
        refine lv_iconst (v := (0 : Int32)) hx hb dX7_chance_34 (by decide) ?_
        have ho := Option.some.inj hsh
        rw [← ho] at hret
        exact hret _ _ _ _ nar0 dX7_chance_35 hP hD hS
      · skip
        have hsh := ite_f hsh c1
        refine lv_iload_n hx hb dX7_chance_19 rfl (lv_at hl 2 rfl) ?_
        refine lv_iconst (v := (4 : Int32)) hx hb dX7_chance_20 (by decide) ?_
        refine lv_icmp_gt (tgt := 34) hx hb dX7_chance_21 (by decide) (fun c1 => ?_) (fun c1 => ?_)
        · skip
          have hsh := ite_t hsh c1
          refine lv_iconst (v := (0 : Int32)) hx hb dX7_chance_34 (by decide) ?_
          have ho := Option.some.inj hsh
          rw [← ho] at hret
          exact hret _ _ _ _ nar0 dX7_chance_35 hP hD hS
        · skip
          have hsh := ite_f hsh c1
          refine lv_iload_n hx hb dX7_chance_24 rfl (lv_at hl 3 rfl) ?_
          refine lv_if_lt (tgt := 34) hx hb dX7_chance_25 (by decide) (fun c1 => ?_) (fun c1 => ?_)
          · skip
            have hsh := ite_t hsh c1
            refine lv_iconst (v := (0 : Int32)) hx hb dX7_chance_34 (by decide) ?_
            have ho := Option.some.inj hsh
            rw [← ho] at hret
            exact hret _ _ _ _ nar0 dX7_chance_35 hP hD hS
          · skip
            have hsh := ite_f hsh c1
            refine lv_iload_n hx hb dX7_chance_28 rfl (lv_at hl 3 rfl) ?_
            refine lv_bipush (v := (15 : Int32)) hx hb dX7_chance_29 (by decide) ?_
            refine lv_icmp_le (tgt := 36) hx hb dX7_chance_31 (by decide) (fun c1 => ?_) (fun c1 => ?_)
            · skip
              have hsh := ite_t hsh c1
              refine lv_aload_n hx hb dX7_chance_36 rfl (lv_at hl 0 rfl) ?_
              refine kget (ci := 7) S hK hP rfl inX7_chance_X7 0 rfl 13 (by decide) lkX7_chance_36 rfl dX7_chance_37 ?_
              refine lv_iconst (v := (5 : Int32)) hx hb dX7_chance_40 (by decide) ?_
              refine lv_iload_n hx hb dX7_chance_41 rfl (lv_at hl 1 rfl) ?_
              refine lv_imul hx hb dX7_chance_42 ?_
              refine lv_iload_n hx hb dX7_chance_43 rfl (lv_at hl 2 rfl) ?_
              refine lv_iadd hx hb dX7_chance_44 ?_
              refine lv_iload_n hx hb dX7_chance_45 rfl (lv_at hl 3 rfl) ?_
              obtain ⟨_, hg, hsh⟩ := bd hsh
              refine kias S hK hP hD hS 1 0 rfl rfl (gd_in hg) (ws' := (wdX7_chance cI cJ cZ q_this q_tape q_prior q_pipesIn q_pipe q_met q_chance q_rock q_people q_bad q_well q_ends q_runs q_way q_words q_told q_weight q_days q_depth q_bestDepth q_hopes q_planOf q_planDepth v_tapeSize (0 : Int32) v_salt v_dry v_rest v_fault v_faultPlace v_rocks v_villages v_day v_at v_allPipes v_end v_next v_kind v_which v_place v_isPlan v_planMany v_planPipes v_planDays (upd w_chance ((((5 : Int32) * a1) + a2)).toNatClampNeg a3))) rfl dX7_chance_46 (fun H locs hP hD hS => ?_)
              refine lv_iconst (v := (1 : Int32)) hx hb dX7_chance_47 (by decide) ?_
              have ho := Option.some.inj hsh
              rw [← ho] at hret
              exact hret _ _ _ _ nar1 dX7_chance_48 hP hD hS
            · skip
              have hsh := ite_f hsh c1
              refine lv_iconst (v := (0 : Int32)) hx hb dX7_chance_34 (by decide) ?_
              have ho := Option.some.inj hsh
              rw [← ho] at hret
              exact hret _ _ _ _ nar0 dX7_chance_35 hP hD hS

/-! DryWellsModel.village -/
noncomputable def shX7_village (a1 : Int32) (a2 : Int32) (v_thrown : Int32) (v_rocks : Int32) (v_villages : Int32) (w_rock : Nat → Int32) (w_people : Nat → Int32) (w_bad : Nat → Int32) (w_well : Nat → Int32) (w_ends : Nat → Int32) (w_runs : Nat → Int32) : Option (Int32 × Int32 × Int32 × (Nat → Int32) × (Nat → Int32) × (Nat → Int32) × (Nat → Int32) × (Nat → Int32) × (Nat → Int32)) :=
  (if v_villages = (7 : Int32) then some ((-1 : Int32), (0 : Int32), v_villages, w_rock, w_people, w_bad, w_well, w_ends, w_runs) else (if a1 < 0 then some ((-1 : Int32), (0 : Int32), v_villages, w_rock, w_people, w_bad, w_well, w_ends, w_runs) else (if v_rocks ≤ a1 then some ((-1 : Int32), (0 : Int32), v_villages, w_rock, w_people, w_bad, w_well, w_ends, w_runs) else (if a2 < (1 : Int32) then some ((-1 : Int32), (0 : Int32), v_villages, w_rock, w_people, w_bad, w_well, w_ends, w_runs) else (if a2 ≤ (9999 : Int32) then ((gd (v_villages + (1 : Int32)) 8).bind fun _ => ((gd (v_villages + (1 : Int32)) 8).bind fun _ => ((gd (v_villages + (1 : Int32)) 8).bind fun _ => ((gd (v_villages + (1 : Int32)) 8).bind fun _ => ((gd (v_villages + (1 : Int32)) 8).bind fun _ => ((gd (v_villages + (1 : Int32)) 8).bind fun _ => some ((v_villages + (1 : Int32)), (0 : Int32), (v_villages + (1 : Int32)), (upd w_rock ((v_villages + (1 : Int32))).toNatClampNeg a1), (upd w_people ((v_villages + (1 : Int32))).toNatClampNeg a2), (upd w_bad ((v_villages + (1 : Int32))).toNatClampNeg (0 : Int32)), (upd w_well ((v_villages + (1 : Int32))).toNatClampNeg (0 : Int32)), (upd w_ends ((v_villages + (1 : Int32))).toNatClampNeg (-1 : Int32)), (upd w_runs ((v_villages + (1 : Int32))).toNatClampNeg (0 : Int32))))))))) else some ((-1 : Int32), (0 : Int32), v_villages, w_rock, w_people, w_bad, w_well, w_ends, w_runs))))))
def wdX7_village (cI cJ cZ : ClassId) (q_this q_tape q_prior q_pipesIn q_pipe q_met q_chance q_rock q_people q_bad q_well q_ends q_runs q_way q_words q_told q_weight q_days q_depth q_bestDepth q_hopes q_planOf q_planDepth : Nat) (v_tapeSize : Int32) (v_thrown : Int32) (v_salt : Int32) (v_dry : Int32) (v_rest : Int32) (v_fault : Int32) (v_faultPlace : Int32) (v_rocks : Int32) (v_villages : Int32) (v_day : Int32) (v_at : Int32) (v_allPipes : Int32) (v_end : Int32) (v_next : Int32) (v_kind : Int32) (v_which : Int32) (v_place : Int32) (v_isPlan : Int32) (v_planMany : Int32) (v_planPipes : Int32) (v_planDays : Int32) (w_rock : Nat → Int32) (w_people : Nat → Int32) (w_bad : Nat → Int32) (w_well : Nat → Int32) (w_ends : Nat → Int32) (w_runs : Nat → Int32) : va_W := [(q_this, .inr (7, [.ref q_tape, .int v_tapeSize, .int v_thrown, .int v_salt, .int v_dry, .int v_rest, .int v_fault, .int v_faultPlace, .int v_rocks, .ref q_prior, .ref q_pipesIn, .ref q_pipe, .ref q_met, .ref q_chance, .int v_villages, .ref q_rock, .ref q_people, .ref q_bad, .ref q_well, .ref q_ends, .ref q_runs, .ref q_way, .int v_day, .int v_at, .int v_allPipes, .ref q_words, .int v_end, .int v_next, .int v_kind, .int v_which, .int v_place, .ref q_told, .ref q_weight, .ref q_days, .ref q_depth, .ref q_bestDepth, .ref q_hopes, .int v_isPlan, .int v_planMany, .int v_planPipes, .int v_planDays, .ref q_planOf, .ref q_planDepth])), (q_rock, .inl (cI, 8, .inl w_rock)), (q_people, .inl (cI, 8, .inl w_people)), (q_bad, .inl (cI, 8, .inl w_bad)), (q_well, .inl (cI, 8, .inl w_well)), (q_ends, .inl (cI, 8, .inl w_ends)), (q_runs, .inl (cI, 8, .inl w_runs))]
abbrev rmX7_village : Room := { frames := 0, cells := 0, slots := 0, locals := 0 }
theorem inX7_village_X7 : ∀ w ∈ u_ws RX7 TX7 43, w ∈ wsX7_village := fun _ h => List.mem_cons_of_mem _ (List.mem_append_right _ h)
theorem lkX7_village_88 : Cond.fieldLink RX7 88 (TX7 2).1 (TX7 2).2.1 (TX7 2).2.2.1 ∈ wsX7_village := List.mem_of_getElem? (i := 1) rfl
theorem lkX7_village_143 : Cond.fieldLink RX7 143 (TX7 14).1 (TX7 14).2.1 (TX7 14).2.2.1 ∈ wsX7_village := List.mem_of_getElem? (i := 2) rfl
theorem lkX7_village_137 : Cond.fieldLink RX7 137 (TX7 8).1 (TX7 8).2.1 (TX7 8).2.2.1 ∈ wsX7_village := List.mem_of_getElem? (i := 3) rfl
theorem lkX7_village_39 : Cond.fieldLink RX7 39 (TX7 15).1 (TX7 15).2.1 (TX7 15).2.2.1 ∈ wsX7_village := List.mem_of_getElem? (i := 4) rfl
theorem lkX7_village_42 : Cond.fieldLink RX7 42 (TX7 16).1 (TX7 16).2.1 (TX7 16).2.2.1 ∈ wsX7_village := List.mem_of_getElem? (i := 5) rfl
theorem lkX7_village_45 : Cond.fieldLink RX7 45 (TX7 17).1 (TX7 17).2.1 (TX7 17).2.2.1 ∈ wsX7_village := List.mem_of_getElem? (i := 6) rfl
theorem lkX7_village_48 : Cond.fieldLink RX7 48 (TX7 18).1 (TX7 18).2.1 (TX7 18).2.2.1 ∈ wsX7_village := List.mem_of_getElem? (i := 7) rfl
theorem lkX7_village_51 : Cond.fieldLink RX7 51 (TX7 19).1 (TX7 19).2.1 (TX7 19).2.2.1 ∈ wsX7_village := List.mem_of_getElem? (i := 8) rfl
theorem lkX7_village_54 : Cond.fieldLink RX7 54 (TX7 20).1 (TX7 20).2.1 (TX7 20).2.2.1 ∈ wsX7_village := List.mem_of_getElem? (i := 9) rfl
theorem hdX7_village : yX7_village.cls = RX7 ∧ yX7_village.cls ≠ "java/lang/invoke/MethodHandle" ∧ yX7_village.cls ≠ "java/lang/invoke/VarHandle" ∧ (parseMethodDescriptor yX7_village.desc).map (fun d => d.parameters.length) = some 2 := by decide +kernel
set_option maxHeartbeats 4000000 in
set_option maxRecDepth 100000 in
theorem ctX7_village (l : Launch) (D : va_G) (cI cJ cZ : ClassId) (q_this q_tape q_prior q_pipesIn q_pipe q_met q_chance q_rock q_people q_bad q_well q_ends q_runs q_way q_words q_told q_weight q_days q_depth q_bestDepth q_hopes q_planOf q_planDepth : Nat) (v_tapeSize : Int32) (v_thrown : Int32) (v_salt : Int32) (v_dry : Int32) (v_rest : Int32) (v_fault : Int32) (v_faultPlace : Int32) (v_rocks : Int32) (v_villages : Int32) (v_day : Int32) (v_at : Int32) (v_allPipes : Int32) (v_end : Int32) (v_next : Int32) (v_kind : Int32) (v_which : Int32) (v_place : Int32) (v_isPlan : Int32) (v_planMany : Int32) (v_planPipes : Int32) (v_planDays : Int32) (w_rock : Nat → Int32) (w_people : Nat → Int32) (w_bad : Nat → Int32) (w_well : Nat → Int32) (w_ends : Nat → Int32) (w_runs : Nat → Int32) (a1 : Int32) (a2 : Int32) (o : Int32 × Int32 × Int32 × (Nat → Int32) × (Nat → Int32) × (Nat → Int32) × (Nat → Int32) × (Nat → Int32) × (Nat → Int32)) (hsh : shX7_village a1 a2 v_thrown v_rocks v_villages w_rock w_people w_bad w_well w_ends w_runs = some o) : CtI l yX7_village wsX7_village rmX7_village D (tys3 cI cJ cZ) noE (wdX7_village cI cJ cZ q_this q_tape q_prior q_pipesIn q_pipe q_met q_chance q_rock q_people q_bad q_well q_ends q_runs q_way q_words q_told q_weight q_days q_depth q_bestDepth q_hopes q_planOf q_planDepth v_tapeSize v_thrown v_salt v_dry v_rest v_fault v_faultPlace v_rocks v_villages v_day v_at v_allPipes v_end v_next v_kind v_which v_place v_isPlan v_planMany v_planPipes v_planDays w_rock w_people w_bad w_well w_ends w_runs) [.ref q_this, .int a1, .int a2] o.1 (wdX7_village cI cJ cZ q_this q_tape q_prior q_pipesIn q_pipe q_met q_chance q_rock q_people q_bad q_well q_ends q_runs q_way q_words q_told q_weight q_days q_depth q_bestDepth q_hopes q_planOf q_planDepth v_tapeSize o.2.1 v_salt v_dry v_rest v_fault v_faultPlace v_rocks o.2.2.1 v_day v_at v_allPipes v_end v_next v_kind v_which v_place v_isPlan v_planMany v_planPipes v_planDays o.2.2.2.1 o.2.2.2.2.1 o.2.2.2.2.2.1 o.2.2.2.2.2.2.1 o.2.2.2.2.2.2.2.1 o.2.2.2.2.2.2.2.2) := by
  refine ctI plX7 rfl (Nat.le_of_ble_eq_true rfl) ?_
  intro p e s m below meth c A Q S hK hA hE hret H locs hP hD hS ls hl
  replace S : CallFix p m c cX7_village 3 s _ wsX7_village RX7 := S
  generalize ([.ref q_this, .int a1, .int a2] : List Value).toArray = args at S hret ⊢
  obtain ⟨hx, hb, hml, hown, hts⟩ := id S
  replace hl : lv_has ls 3 [(0, .ref q_this), (1, .int a1), (2, .int a2)] := hl
  unfold shX7_village at hsh
  refine lv_aload_n hx hb dX7_village_0 rfl (lv_at hl 0 rfl) ?_
  refine lv_iconst (v := (0 : Int32)) hx hb dX7_village_1 (by decide) ?_
  refine kput (ci := 7) S hK hP hD hS rfl inX7_village_X7 tyX7_ok nmX7 0 rfl 2 (by decide) lkX7_village_88 rfl rfl rfl (Nat.le_of_ble_eq_true rfl) (ws' := (wdX7_village cI cJ cZ q_this q_tape q_prior q_pipesIn q_pipe q_met q_chance q_rock q_people q_bad q_well q_ends q_runs q_way q_words q_told q_weight q_days q_depth q_bestDepth q_hopes q_planOf q_planDepth v_tapeSize (0 : Int32) v_salt v_dry v_rest v_fault v_faultPlace v_rocks v_villages v_day v_at v_allPipes v_end v_next v_kind v_which v_place v_isPlan v_planMany v_planPipes v_planDays w_rock w_people w_bad w_well w_ends w_runs)) rfl dX7_village_2 (fun H locs hP hD hS => ?_)
  refine lv_aload_n hx hb dX7_village_5 rfl (lv_at hl 0 rfl) ?_
  refine kget (ci := 7) S hK hP rfl inX7_village_X7 0 rfl 14 (by decide) lkX7_village_143 rfl dX7_village_6 ?_
  refine lv_bipush (v := (7 : Int32)) hx hb dX7_village_9 (by decide) ?_
  refine lv_icmp_eq (tgt := 38) hx hb dX7_village_11 (by decide) (fun c1 => ?_) (fun c1 => ?_)
  · skip
    have hsh := ite_t hsh c1
    refine lv_iconst (v := (-1 : Int32)) hx hb dX7_village_38 (by decide) ?_
    have ho := Option.some.inj hsh
    rw [← ho] at hret
    exact hret _ _ _ _ dX7_village_39 hP hD hS
  · skip
    have hsh := ite_f hsh c1
    refine lv_iload_n hx hb dX7_village_14 rfl (lv_at hl 1 rfl) ?_
    refine lv_if_lt (tgt := 38) hx hb dX7_village_15 (by decide) (fun c1 => ?_) (fun c1 => ?_)
    · skip
      have hsh := ite_t hsh c1
      refine lv_iconst (v := (-1 : Int32)) hx hb dX7_village_38 (by decide) ?_
      have ho := Option.some.inj hsh
      rw [← ho] at hret
      exact hret _ _ _ _ dX7_village_39 hP hD hS
    · skip
      have hsh := ite_f hsh c1
      refine lv_iload_n hx hb dX7_village_18 rfl (lv_at hl 1 rfl) ?_
      refine lv_aload_n hx hb dX7_village_19 rfl (lv_at hl 0 rfl) ?_
      refine kget (ci := 7) S hK hP rfl inX7_village_X7 0 rfl 8 (by decide) lkX7_village_137 rfl dX7_village_20 ?_
      refine lv_icmp_ge (tgt := 38) hx hb dX7_village_23 (by decide) (fun c1 => ?_) (fun c1 => ?_)
      · skip
        have hsh := ite_t hsh c1
        refine lv_iconst (v := (-1 : Int32)) hx hb dX7_village_38 (by decide) ?_
        have ho := Option.some.inj hsh
        rw [← ho] at hret
        exact hret _ _ _ _ dX7_village_39 hP hD hS
      · skip
        have hsh := ite_f hsh c1
        refine lv_iload_n hx hb dX7_village_26 rfl (lv_at hl 2 rfl) ?_
        refine lv_iconst (v := (1 : Int32)) hx hb dX7_village_27 (by decide) ?_
        refine lv_icmp_lt (tgt := 38) hx hb dX7_village_28 (by decide) (fun c1 => ?_) (fun c1 => ?_)
        · skip
          have hsh := ite_t hsh c1
          refine lv_iconst (v := (-1 : Int32)) hx hb dX7_village_38 (by decide) ?_
          have ho := Option.some.inj hsh
          rw [← ho] at hret
          exact hret _ _ _ _ dX7_village_39 hP hD hS
        · skip
          have hsh := ite_f hsh c1
          refine lv_iload_n hx hb dX7_village_31 rfl (lv_at hl 2 rfl) ?_
          refine lv_sipush (v := (9999 : Int32)) hx hb dX7_village_32 (by decide) ?_
          refine lv_icmp_le (tgt := 40) hx hb dX7_village_35 (by decide) (fun c1 => ?_) (fun c1 => ?_)
          · skip
            have hsh := ite_t hsh c1
            refine lv_aload_n hx hb dX7_village_40 rfl (lv_at hl 0 rfl) ?_
            refine lv_dup hx hb dX7_village_41 rfl ?_
            refine kget (ci := 7) S hK hP rfl inX7_village_X7 0 rfl 14 (by decide) lkX7_village_143 rfl dX7_village_42 ?_
            refine lv_iconst (v := (1 : Int32)) hx hb dX7_village_45 (by decide) ?_
            refine lv_iadd hx hb dX7_village_46 ?_
            refine kput (ci := 7) S hK hP hD hS rfl inX7_village_X7 tyX7_ok nmX7 0 rfl 14 (by decide) lkX7_village_143 rfl rfl rfl (Nat.le_of_ble_eq_true rfl) (ws' := (wdX7_village cI cJ cZ q_this q_tape q_prior q_pipesIn q_pipe q_met q_chance q_rock q_people q_bad q_well q_ends q_runs q_way q_words q_told q_weight q_days q_depth q_bestDepth q_hopes q_planOf q_planDepth v_tapeSize (0 : Int32) v_salt v_dry v_rest v_fault v_faultPlace v_rocks (v_villages + (1 : Int32)) v_day v_at v_allPipes v_end v_next v_kind v_which v_place v_isPlan v_planMany v_planPipes v_planDays w_rock w_people w_bad w_well w_ends w_runs)) rfl dX7_village_47 (fun H locs hP hD hS => ?_)
            refine lv_aload_n hx hb dX7_village_50 rfl (lv_at hl 0 rfl) ?_
            refine kget (ci := 7) S hK hP rfl inX7_village_X7 0 rfl 15 (by decide) lkX7_village_39 rfl dX7_village_51 ?_
            refine lv_aload_n hx hb dX7_village_54 rfl (lv_at hl 0 rfl) ?_
            refine kget (ci := 7) S hK hP rfl inX7_village_X7 0 rfl 14 (by decide) lkX7_village_143 rfl dX7_village_55 ?_
            refine lv_iload_n hx hb dX7_village_58 rfl (lv_at hl 1 rfl) ?_
            obtain ⟨_, hg, hsh⟩ := bd hsh
            refine kias S hK hP hD hS 1 0 rfl rfl (gd_in hg) (ws' := (wdX7_village cI cJ cZ q_this q_tape q_prior q_pipesIn q_pipe q_met q_chance q_rock q_people q_bad q_well q_ends q_runs q_way q_words q_told q_weight q_days q_depth q_bestDepth q_hopes q_planOf q_planDepth v_tapeSize (0 : Int32) v_salt v_dry v_rest v_fault v_faultPlace v_rocks (v_villages + (1 : Int32)) v_day v_at v_allPipes v_end v_next v_kind v_which v_place v_isPlan v_planMany v_planPipes v_planDays (upd w_rock ((v_villages + (1 : Int32))).toNatClampNeg a1) w_people w_bad w_well w_ends w_runs)) rfl dX7_village_59 (fun H locs hP hD hS => ?_)
            refine lv_aload_n hx hb dX7_village_60 rfl (lv_at hl 0 rfl) ?_
            refine kget (ci := 7) S hK hP rfl inX7_village_X7 0 rfl 16 (by decide) lkX7_village_42 rfl dX7_village_61 ?_
            refine lv_aload_n hx hb dX7_village_64 rfl (lv_at hl 0 rfl) ?_
            refine kget (ci := 7) S hK hP rfl inX7_village_X7 0 rfl 14 (by decide) lkX7_village_143 rfl dX7_village_65 ?_
            refine lv_iload_n hx hb dX7_village_68 rfl (lv_at hl 2 rfl) ?_
            obtain ⟨_, hg, hsh⟩ := bd hsh
            refine kias S hK hP hD hS 2 0 rfl rfl (gd_in hg) (ws' := (wdX7_village cI cJ cZ q_this q_tape q_prior q_pipesIn q_pipe q_met q_chance q_rock q_people q_bad q_well q_ends q_runs q_way q_words q_told q_weight q_days q_depth q_bestDepth q_hopes q_planOf q_planDepth v_tapeSize (0 : Int32) v_salt v_dry v_rest v_fault v_faultPlace v_rocks (v_villages + (1 : Int32)) v_day v_at v_allPipes v_end v_next v_kind v_which v_place v_isPlan v_planMany v_planPipes v_planDays (upd w_rock ((v_villages + (1 : Int32))).toNatClampNeg a1) (upd w_people ((v_villages + (1 : Int32))).toNatClampNeg a2) w_bad w_well w_ends w_runs)) rfl dX7_village_69 (fun H locs hP hD hS => ?_)
            refine lv_aload_n hx hb dX7_village_70 rfl (lv_at hl 0 rfl) ?_
            refine kget (ci := 7) S hK hP rfl inX7_village_X7 0 rfl 17 (by decide) lkX7_village_45 rfl dX7_village_71 ?_
            refine lv_aload_n hx hb dX7_village_74 rfl (lv_at hl 0 rfl) ?_
            refine kget (ci := 7) S hK hP rfl inX7_village_X7 0 rfl 14 (by decide) lkX7_village_143 rfl dX7_village_75 ?_
            refine lv_iconst (v := (0 : Int32)) hx hb dX7_village_78 (by decide) ?_
            obtain ⟨_, hg, hsh⟩ := bd hsh
            refine kias S hK hP hD hS 3 0 rfl rfl (gd_in hg) (ws' := (wdX7_village cI cJ cZ q_this q_tape q_prior q_pipesIn q_pipe q_met q_chance q_rock q_people q_bad q_well q_ends q_runs q_way q_words q_told q_weight q_days q_depth q_bestDepth q_hopes q_planOf q_planDepth v_tapeSize (0 : Int32) v_salt v_dry v_rest v_fault v_faultPlace v_rocks (v_villages + (1 : Int32)) v_day v_at v_allPipes v_end v_next v_kind v_which v_place v_isPlan v_planMany v_planPipes v_planDays (upd w_rock ((v_villages + (1 : Int32))).toNatClampNeg a1) (upd w_people ((v_villages + (1 : Int32))).toNatClampNeg a2) (upd w_bad ((v_villages + (1 : Int32))).toNatClampNeg (0 : Int32)) w_well w_ends w_runs)) rfl dX7_village_79 (fun H locs hP hD hS => ?_)
            refine lv_aload_n hx hb dX7_village_80 rfl (lv_at hl 0 rfl) ?_
            refine kget (ci := 7) S hK hP rfl inX7_village_X7 0 rfl 18 (by decide) lkX7_village_48 rfl dX7_village_81 ?_
            refine lv_aload_n hx hb dX7_village_84 rfl (lv_at hl 0 rfl) ?_
            refine kget (ci := 7) S hK hP rfl inX7_village_X7 0 rfl 14 (by decide) lkX7_village_143 rfl dX7_village_85 ?_
            refine lv_iconst (v := (0 : Int32)) hx hb dX7_village_88 (by decide) ?_
            obtain ⟨_, hg, hsh⟩ := bd hsh
            refine kias S hK hP hD hS 4 0 rfl rfl (gd_in hg) (ws' := (wdX7_village cI cJ cZ q_this q_tape q_prior q_pipesIn q_pipe q_met q_chance q_rock q_people q_bad q_well q_ends q_runs q_way q_words q_told q_weight q_days q_depth q_bestDepth q_hopes q_planOf q_planDepth v_tapeSize (0 : Int32) v_salt v_dry v_rest v_fault v_faultPlace v_rocks (v_villages + (1 : Int32)) v_day v_at v_allPipes v_end v_next v_kind v_which v_place v_isPlan v_planMany v_planPipes v_planDays (upd w_rock ((v_villages + (1 : Int32))).toNatClampNeg a1) (upd w_people ((v_villages + (1 : Int32))).toNatClampNeg a2) (upd w_bad ((v_villages + (1 : Int32))).toNatClampNeg (0 : Int32)) (upd w_well ((v_villages + (1 : Int32))).toNatClampNeg (0 : Int32)) w_ends w_runs)) rfl dX7_village_89 (fun H locs hP hD hS => ?_)
            refine lv_aload_n hx hb dX7_village_90 rfl (lv_at hl 0 rfl) ?_
            refine kget (ci := 7) S hK hP rfl inX7_village_X7 0 rfl 19 (by decide) lkX7_village_51 rfl dX7_village_91 ?_
            refine lv_aload_n hx hb dX7_village_94 rfl (lv_at hl 0 rfl) ?_
            refine kget (ci := 7) S hK hP rfl inX7_village_X7 0 rfl 14 (by decide) lkX7_village_143 rfl dX7_village_95 ?_
            refine lv_iconst (v := (-1 : Int32)) hx hb dX7_village_98 (by decide) ?_
            obtain ⟨_, hg, hsh⟩ := bd hsh
            refine kias S hK hP hD hS 5 0 rfl rfl (gd_in hg) (ws' := (wdX7_village cI cJ cZ q_this q_tape q_prior q_pipesIn q_pipe q_met q_chance q_rock q_people q_bad q_well q_ends q_runs q_way q_words q_told q_weight q_days q_depth q_bestDepth q_hopes q_planOf q_planDepth v_tapeSize (0 : Int32) v_salt v_dry v_rest v_fault v_faultPlace v_rocks (v_villages + (1 : Int32)) v_day v_at v_allPipes v_end v_next v_kind v_which v_place v_isPlan v_planMany v_planPipes v_planDays (upd w_rock ((v_villages + (1 : Int32))).toNatClampNeg a1) (upd w_people ((v_villages + (1 : Int32))).toNatClampNeg a2) (upd w_bad ((v_villages + (1 : Int32))).toNatClampNeg (0 : Int32)) (upd w_well ((v_villages + (1 : Int32))).toNatClampNeg (0 : Int32)) (upd w_ends ((v_villages + (1 : Int32))).toNatClampNeg (-1 : Int32)) w_runs)) rfl dX7_village_99 (fun H locs hP hD hS => ?_)
            refine lv_aload_n hx hb dX7_village_100 rfl (lv_at hl 0 rfl) ?_
            refine kget (ci := 7) S hK hP rfl inX7_village_X7 0 rfl 20 (by decide) lkX7_village_54 rfl dX7_village_101 ?_
            refine lv_aload_n hx hb dX7_village_104 rfl (lv_at hl 0 rfl) ?_
            refine kget (ci := 7) S hK hP rfl inX7_village_X7 0 rfl 14 (by decide) lkX7_village_143 rfl dX7_village_105 ?_
            refine lv_iconst (v := (0 : Int32)) hx hb dX7_village_108 (by decide) ?_
            obtain ⟨_, hg, hsh⟩ := bd hsh
            refine kias S hK hP hD hS 6 0 rfl rfl (gd_in hg) (ws' := (wdX7_village cI cJ cZ q_this q_tape q_prior q_pipesIn q_pipe q_met q_chance q_rock q_people q_bad q_well q_ends q_runs q_way q_words q_told q_weight q_days q_depth q_bestDepth q_hopes q_planOf q_planDepth v_tapeSize (0 : Int32) v_salt v_dry v_rest v_fault v_faultPlace v_rocks (v_villages + (1 : Int32)) v_day v_at v_allPipes v_end v_next v_kind v_which v_place v_isPlan v_planMany v_planPipes v_planDays (upd w_rock ((v_villages + (1 : Int32))).toNatClampNeg a1) (upd w_people ((v_villages + (1 : Int32))).toNatClampNeg a2) (upd w_bad ((v_villages + (1 : Int32))).toNatClampNeg (0 : Int32)) (upd w_well ((v_villages + (1 : Int32))).toNatClampNeg (0 : Int32)) (upd w_ends ((v_villages + (1 : Int32))).toNatClampNeg (-1 : Int32)) (upd w_runs ((v_villages + (1 : Int32))).toNatClampNeg (0 : Int32)))) rfl dX7_village_109 (fun H locs hP hD hS => ?_)
            refine lv_aload_n hx hb dX7_village_110 rfl (lv_at hl 0 rfl) ?_
            refine kget (ci := 7) S hK hP rfl inX7_village_X7 0 rfl 14 (by decide) lkX7_village_143 rfl dX7_village_111 ?_
            have ho := Option.some.inj hsh
            rw [← ho] at hret
            exact hret _ _ _ _ dX7_village_114 hP hD hS
          · skip
            have hsh := ite_f hsh c1
            refine lv_iconst (v := (-1 : Int32)) hx hb dX7_village_38 (by decide) ?_
            have ho := Option.some.inj hsh
            rw [← ho] at hret
            exact hret _ _ _ _ dX7_village_39 hP hD hS

/-! DryWellsModel.isVillage -/
noncomputable def shX7_isVillage (a1 : Int32) (v_villages : Int32) : Option (Int32) :=
  (if a1 < (1 : Int32) then some (0 : Int32) else (if v_villages < a1 then some (0 : Int32) else some (1 : Int32)))
def wdX7_isVillage (cI cJ cZ : ClassId) (q_this q_tape q_prior q_pipesIn q_pipe q_met q_chance q_rock q_people q_bad q_well q_ends q_runs q_way q_words q_told q_weight q_days q_depth q_bestDepth q_hopes q_planOf q_planDepth : Nat) (v_tapeSize : Int32) (v_thrown : Int32) (v_salt : Int32) (v_dry : Int32) (v_rest : Int32) (v_fault : Int32) (v_faultPlace : Int32) (v_rocks : Int32) (v_villages : Int32) (v_day : Int32) (v_at : Int32) (v_allPipes : Int32) (v_end : Int32) (v_next : Int32) (v_kind : Int32) (v_which : Int32) (v_place : Int32) (v_isPlan : Int32) (v_planMany : Int32) (v_planPipes : Int32) (v_planDays : Int32) : va_W := [(q_this, .inr (7, [.ref q_tape, .int v_tapeSize, .int v_thrown, .int v_salt, .int v_dry, .int v_rest, .int v_fault, .int v_faultPlace, .int v_rocks, .ref q_prior, .ref q_pipesIn, .ref q_pipe, .ref q_met, .ref q_chance, .int v_villages, .ref q_rock, .ref q_people, .ref q_bad, .ref q_well, .ref q_ends, .ref q_runs, .ref q_way, .int v_day, .int v_at, .int v_allPipes, .ref q_words, .int v_end, .int v_next, .int v_kind, .int v_which, .int v_place, .ref q_told, .ref q_weight, .ref q_days, .ref q_depth, .ref q_bestDepth, .ref q_hopes, .int v_isPlan, .int v_planMany, .int v_planPipes, .int v_planDays, .ref q_planOf, .ref q_planDepth]))]
abbrev rmX7_isVillage : Room := { frames := 0, cells := 0, slots := 0, locals := 0 }
theorem inX7_isVillage_X7 : ∀ w ∈ u_ws RX7 TX7 43, w ∈ wsX7_isVillage := fun _ h => List.mem_cons_of_mem _ (List.mem_append_right _ h)
theorem lkX7_isVillage_143 : Cond.fieldLink RX7 143 (TX7 14).1 (TX7 14).2.1 (TX7 14).2.2.1 ∈ wsX7_isVillage := List.mem_of_getElem? (i := 1) rfl
theorem hdX7_isVillage : yX7_isVillage.cls = RX7 ∧ yX7_isVillage.cls ≠ "java/lang/invoke/MethodHandle" ∧ yX7_isVillage.cls ≠ "java/lang/invoke/VarHandle" ∧ (parseMethodDescriptor yX7_isVillage.desc).map (fun d => d.parameters.length) = some 1 := by decide +kernel
set_option maxHeartbeats 4000000 in
set_option maxRecDepth 100000 in
theorem ctX7_isVillage (l : Launch) (D : va_G) (cI cJ cZ : ClassId) (q_this q_tape q_prior q_pipesIn q_pipe q_met q_chance q_rock q_people q_bad q_well q_ends q_runs q_way q_words q_told q_weight q_days q_depth q_bestDepth q_hopes q_planOf q_planDepth : Nat) (v_tapeSize : Int32) (v_thrown : Int32) (v_salt : Int32) (v_dry : Int32) (v_rest : Int32) (v_fault : Int32) (v_faultPlace : Int32) (v_rocks : Int32) (v_villages : Int32) (v_day : Int32) (v_at : Int32) (v_allPipes : Int32) (v_end : Int32) (v_next : Int32) (v_kind : Int32) (v_which : Int32) (v_place : Int32) (v_isPlan : Int32) (v_planMany : Int32) (v_planPipes : Int32) (v_planDays : Int32) (a1 : Int32) (o : Int32) (hsh : shX7_isVillage a1 v_villages = some o) : CtI l yX7_isVillage wsX7_isVillage rmX7_isVillage D (tys3 cI cJ cZ) noE (wdX7_isVillage cI cJ cZ q_this q_tape q_prior q_pipesIn q_pipe q_met q_chance q_rock q_people q_bad q_well q_ends q_runs q_way q_words q_told q_weight q_days q_depth q_bestDepth q_hopes q_planOf q_planDepth v_tapeSize v_thrown v_salt v_dry v_rest v_fault v_faultPlace v_rocks v_villages v_day v_at v_allPipes v_end v_next v_kind v_which v_place v_isPlan v_planMany v_planPipes v_planDays) [.ref q_this, .int a1] o (wdX7_isVillage cI cJ cZ q_this q_tape q_prior q_pipesIn q_pipe q_met q_chance q_rock q_people q_bad q_well q_ends q_runs q_way q_words q_told q_weight q_days q_depth q_bestDepth q_hopes q_planOf q_planDepth v_tapeSize v_thrown v_salt v_dry v_rest v_fault v_faultPlace v_rocks v_villages v_day v_at v_allPipes v_end v_next v_kind v_which v_place v_isPlan v_planMany v_planPipes v_planDays) := by
  refine ctZ plX7 rfl (Nat.le_of_ble_eq_true rfl) ?_
  intro p e s m below meth c A Q S hK hA hE hret H locs hP hD hS ls hl
  replace S : CallFix p m c cX7_isVillage 2 s _ wsX7_isVillage RX7 := S
  generalize ([.ref q_this, .int a1] : List Value).toArray = args at S hret ⊢
  obtain ⟨hx, hb, hml, hown, hts⟩ := id S
  replace hl : lv_has ls 2 [(0, .ref q_this), (1, .int a1)] := hl
  unfold shX7_isVillage at hsh
  refine lv_iload_n hx hb dX7_isVillage_0 rfl (lv_at hl 1 rfl) ?_
  refine lv_iconst (v := (1 : Int32)) hx hb dX7_isVillage_1 (by decide) ?_
  refine lv_icmp_lt (tgt := 17) hx hb dX7_isVillage_2 (by decide) (fun c1 => ?_) (fun c1 => ?_)
  · skip
    have hsh := ite_t hsh c1
    refine lv_iconst (v := (0 : Int32)) hx hb dX7_isVillage_17 (by decide) ?_
    have ho := Option.some.inj hsh
    rw [← ho] at hret
    exact hret _ _ _ _ nar0 dX7_isVillage_18 hP hD hS
  · skip
    have hsh := ite_f hsh c1
    refine lv_iload_n hx hb dX7_isVillage_5 rfl (lv_at hl 1 rfl) ?_
    refine lv_aload_n hx hb dX7_isVillage_6 rfl (lv_at hl 0 rfl) ?_
    refine kget (ci := 7) S hK hP rfl inX7_isVillage_X7 0 rfl 14 (by decide) lkX7_isVillage_143 rfl dX7_isVillage_7 ?_
    refine lv_icmp_gt (tgt := 17) hx hb dX7_isVillage_10 (by decide) (fun c1 => ?_) (fun c1 => ?_)
    · skip
      have hsh := ite_t hsh c1
      refine lv_iconst (v := (0 : Int32)) hx hb dX7_isVillage_17 (by decide) ?_
      have ho := Option.some.inj hsh
      rw [← ho] at hret
      exact hret _ _ _ _ nar0 dX7_isVillage_18 hP hD hS
    · skip
      have hsh := ite_f hsh c1
      refine lv_iconst (v := (1 : Int32)) hx hb dX7_isVillage_13 (by decide) ?_
      refine lv_goto (tgt := 18) hx hb dX7_isVillage_14 (by decide) ?_
      have ho := Option.some.inj hsh
      rw [← ho] at hret
      exact hret _ _ _ _ nar1 dX7_isVillage_18 hP hD hS

/-! DryWellsModel.way -/
noncomputable def shX7_way_j_52 (a1 : Int32) (a2 : Int32) (a3 : Int32) (w_way : Nat → Int32) (v_thrown_j_52 : Int32) : Option (Int32 × Int32 × (Nat → Int32)) :=
  ((gd (((8 : Int32) * a1) + a2) 64).bind fun _ => ((gd (((8 : Int32) * a2) + a1) 64).bind fun _ => some ((1 : Int32), v_thrown_j_52, (upd (upd w_way ((((8 : Int32) * a1) + a2)).toNatClampNeg a3) ((((8 : Int32) * a2) + a1)).toNatClampNeg a3))))
noncomputable def shX7_way (a1 : Int32) (a2 : Int32) (a3 : Int32) (v_thrown : Int32) (v_villages : Int32) (w_way : Nat → Int32) : Option (Int32 × Int32 × (Nat → Int32)) :=
  (if a1 < 0 then some ((0 : Int32), (0 : Int32), w_way) else (if v_villages < a1 then some ((0 : Int32), (0 : Int32), w_way) else (if a2 < 0 then some ((0 : Int32), (0 : Int32), w_way) else (if v_villages < a2 then some ((0 : Int32), (0 : Int32), w_way) else (if a1 = a2 then some ((0 : Int32), (0 : Int32), w_way) else (if a3 = (-1 : Int32) then (shX7_way_j_52 a1 a2 a3 w_way (0 : Int32)) else (if a3 < (1 : Int32) then some ((0 : Int32), (0 : Int32), w_way) else (if a3 ≤ (9 : Int32) then (shX7_way_j_52 a1 a2 a3 w_way (0 : Int32)) else some ((0 : Int32), (0 : Int32), w_way)))))))))
def wdX7_way (cI cJ cZ : ClassId) (q_this q_tape q_prior q_pipesIn q_pipe q_met q_chance q_rock q_people q_bad q_well q_ends q_runs q_way q_words q_told q_weight q_days q_depth q_bestDepth q_hopes q_planOf q_planDepth : Nat) (v_tapeSize : Int32) (v_thrown : Int32) (v_salt : Int32) (v_dry : Int32) (v_rest : Int32) (v_fault : Int32) (v_faultPlace : Int32) (v_rocks : Int32) (v_villages : Int32) (v_day : Int32) (v_at : Int32) (v_allPipes : Int32) (v_end : Int32) (v_next : Int32) (v_kind : Int32) (v_which : Int32) (v_place : Int32) (v_isPlan : Int32) (v_planMany : Int32) (v_planPipes : Int32) (v_planDays : Int32) (w_way : Nat → Int32) : va_W := [(q_this, .inr (7, [.ref q_tape, .int v_tapeSize, .int v_thrown, .int v_salt, .int v_dry, .int v_rest, .int v_fault, .int v_faultPlace, .int v_rocks, .ref q_prior, .ref q_pipesIn, .ref q_pipe, .ref q_met, .ref q_chance, .int v_villages, .ref q_rock, .ref q_people, .ref q_bad, .ref q_well, .ref q_ends, .ref q_runs, .ref q_way, .int v_day, .int v_at, .int v_allPipes, .ref q_words, .int v_end, .int v_next, .int v_kind, .int v_which, .int v_place, .ref q_told, .ref q_weight, .ref q_days, .ref q_depth, .ref q_bestDepth, .ref q_hopes, .int v_isPlan, .int v_planMany, .int v_planPipes, .int v_planDays, .ref q_planOf, .ref q_planDepth])), (q_way, .inl (cI, 64, .inl w_way))]
abbrev rmX7_way : Room := { frames := 0, cells := 0, slots := 0, locals := 0 }
theorem inX7_way_X7 : ∀ w ∈ u_ws RX7 TX7 43, w ∈ wsX7_way := fun _ h => List.mem_cons_of_mem _ (List.mem_append_right _ h)
theorem lkX7_way_88 : Cond.fieldLink RX7 88 (TX7 2).1 (TX7 2).2.1 (TX7 2).2.2.1 ∈ wsX7_way := List.mem_of_getElem? (i := 1) rfl
theorem lkX7_way_143 : Cond.fieldLink RX7 143 (TX7 14).1 (TX7 14).2.1 (TX7 14).2.2.1 ∈ wsX7_way := List.mem_of_getElem? (i := 2) rfl
theorem lkX7_way_57 : Cond.fieldLink RX7 57 (TX7 21).1 (TX7 21).2.1 (TX7 21).2.2.1 ∈ wsX7_way := List.mem_of_getElem? (i := 3) rfl
theorem hdX7_way : yX7_way.cls = RX7 ∧ yX7_way.cls ≠ "java/lang/invoke/MethodHandle" ∧ yX7_way.cls ≠ "java/lang/invoke/VarHandle" ∧ (parseMethodDescriptor yX7_way.desc).map (fun d => d.parameters.length) = some 3 := by decide +kernel
set_option maxHeartbeats 4000000 in
set_option maxRecDepth 100000 in
theorem ctX7_way (l : Launch) (D : va_G) (cI cJ cZ : ClassId) (q_this q_tape q_prior q_pipesIn q_pipe q_met q_chance q_rock q_people q_bad q_well q_ends q_runs q_way q_words q_told q_weight q_days q_depth q_bestDepth q_hopes q_planOf q_planDepth : Nat) (v_tapeSize : Int32) (v_thrown : Int32) (v_salt : Int32) (v_dry : Int32) (v_rest : Int32) (v_fault : Int32) (v_faultPlace : Int32) (v_rocks : Int32) (v_villages : Int32) (v_day : Int32) (v_at : Int32) (v_allPipes : Int32) (v_end : Int32) (v_next : Int32) (v_kind : Int32) (v_which : Int32) (v_place : Int32) (v_isPlan : Int32) (v_planMany : Int32) (v_planPipes : Int32) (v_planDays : Int32) (w_way : Nat → Int32) (a1 : Int32) (a2 : Int32) (a3 : Int32) (o : Int32 × Int32 × (Nat → Int32)) (hsh : shX7_way a1 a2 a3 v_thrown v_villages w_way = some o) : CtI l yX7_way wsX7_way rmX7_way D (tys3 cI cJ cZ) noE (wdX7_way cI cJ cZ q_this q_tape q_prior q_pipesIn q_pipe q_met q_chance q_rock q_people q_bad q_well q_ends q_runs q_way q_words q_told q_weight q_days q_depth q_bestDepth q_hopes q_planOf q_planDepth v_tapeSize v_thrown v_salt v_dry v_rest v_fault v_faultPlace v_rocks v_villages v_day v_at v_allPipes v_end v_next v_kind v_which v_place v_isPlan v_planMany v_planPipes v_planDays w_way) [.ref q_this, .int a1, .int a2, .int a3] o.1 (wdX7_way cI cJ cZ q_this q_tape q_prior q_pipesIn q_pipe q_met q_chance q_rock q_people q_bad q_well q_ends q_runs q_way q_words q_told q_weight q_days q_depth q_bestDepth q_hopes q_planOf q_planDepth v_tapeSize o.2.1 v_salt v_dry v_rest v_fault v_faultPlace v_rocks v_villages v_day v_at v_allPipes v_end v_next v_kind v_which v_place v_isPlan v_planMany v_planPipes v_planDays o.2.2) := by
  refine ctZ plX7 rfl (Nat.le_of_ble_eq_true rfl) ?_
  intro p e s m below meth c A Q S hK hA hE hret H locs hP hD hS ls hl
  replace S : CallFix p m c cX7_way 4 s _ wsX7_way RX7 := S
  generalize ([.ref q_this, .int a1, .int a2, .int a3] : List Value).toArray = args at S hret ⊢
  obtain ⟨hx, hb, hml, hown, hts⟩ := id S
  replace hl : lv_has ls 4 [(0, .ref q_this), (1, .int a1), (2, .int a2), (3, .int a3)] := hl
  unfold shX7_way at hsh
  have Jj_52 : ∀ (v_thrown_j_52 : Int32) (H : Heap) (locs : List Loc), va_P D vwCl (wdX7_way cI cJ cZ q_this q_tape q_prior q_pipesIn q_pipe q_met q_chance q_rock q_people q_bad q_well q_ends q_runs q_way q_words q_told q_weight q_days q_depth q_bestDepth q_hopes q_planOf q_planDepth v_tapeSize v_thrown_j_52 v_salt v_dry v_rest v_fault v_faultPlace v_rocks v_villages v_day v_at v_allPipes v_end v_next v_kind v_which v_place v_isPlan v_planMany v_planPipes v_planDays w_way) H → va_D A (wdX7_way cI cJ cZ q_this q_tape q_prior q_pipesIn q_pipe q_met q_chance q_rock q_people q_bad q_well q_ends q_runs q_way q_words q_told q_weight q_days q_depth q_bestDepth q_hopes q_planOf q_planDepth v_tapeSize v_thrown_j_52 v_salt v_dry v_rest v_fault v_faultPlace v_rocks v_villages v_day v_at v_allPipes v_end v_next v_kind v_which v_place v_isPlan v_planMany v_planPipes v_planDays w_way) → va_S A s.heap H locs → ∀ ls : Array Slot, lv_has ls 4 [(0, .ref q_this), (1, .int a1), (2, .int a2), (3, .int a3)] → shX7_way_j_52 a1 a2 a3 w_way v_thrown_j_52 = some o → W p l e rmX7_way s m args below meth c H locs 0 0 Q (F0 m 52 ls []) := by
    intro v_thrown_j_52 H locs hP hD hS ls hl hsh
    unfold shX7_way_j_52 at hsh
    refine lv_aload_n hx hb dX7_way_52 rfl (lv_at hl 0 rfl) ?_
    refine kget (ci := 7) S hK hP rfl inX7_way_X7 0 rfl 21 (by decide) lkX7_way_57 rfl dX7_way_53 ?_
    refine lv_bipush (v := (8 : Int32)) hx hb dX7_way_56 (by decide) ?_
    refine lv_iload_n hx hb dX7_way_58 rfl (lv_at hl 1 rfl) ?_
    refine lv_imul hx hb dX7_way_59 ?_
    refine lv_iload_n hx hb dX7_way_60 rfl (lv_at hl 2 rfl) ?_
    refine lv_iadd hx hb dX7_way_61 ?_
    refine lv_iload_n hx hb dX7_way_62 rfl (lv_at hl 3 rfl) ?_
    obtain ⟨_, hg, hsh⟩ := bd hsh
    refine kias S hK hP hD hS 1 0 rfl rfl (gd_in hg) (ws' := (wdX7_way cI cJ cZ q_this q_tape q_prior q_pipesIn q_pipe q_met q_chance q_rock q_people q_bad q_well q_ends q_runs q_way q_words q_told q_weight q_days q_depth q_bestDepth q_hopes q_planOf q_planDepth v_tapeSize v_thrown_j_52 v_salt v_dry v_rest v_fault v_faultPlace v_rocks v_villages v_day v_at v_allPipes v_end v_next v_kind v_which v_place v_isPlan v_planMany v_planPipes v_planDays (upd w_way ((((8 : Int32) * a1) + a2)).toNatClampNeg a3))) rfl dX7_way_63 (fun H locs hP hD hS => ?_)
    refine lv_aload_n hx hb dX7_way_64 rfl (lv_at hl 0 rfl) ?_
    refine kget (ci := 7) S hK hP rfl inX7_way_X7 0 rfl 21 (by decide) lkX7_way_57 rfl dX7_way_65 ?_
    refine lv_bipush (v := (8 : Int32)) hx hb dX7_way_68 (by decide) ?_
    refine lv_iload_n hx hb dX7_way_70 rfl (lv_at hl 2 rfl) ?_
    refine lv_imul hx hb dX7_way_71 ?_
    refine lv_iload_n hx hb dX7_way_72 rfl (lv_at hl 1 rfl) ?_
    refine lv_iadd hx hb dX7_way_73 ?_
    refine lv_iload_n hx hb dX7_way_74 rfl (lv_at hl 3 rfl) ?_
    obtain ⟨_, hg, hsh⟩ := bd hsh
    refine kias S hK hP hD hS 1 0 rfl rfl (gd_in hg) (ws' := (wdX7_way cI cJ cZ q_this q_tape q_prior q_pipesIn q_pipe q_met q_chance q_rock q_people q_bad q_well q_ends q_runs q_way q_words q_told q_weight q_days q_depth q_bestDepth q_hopes q_planOf q_planDepth v_tapeSize v_thrown_j_52 v_salt v_dry v_rest v_fault v_faultPlace v_rocks v_villages v_day v_at v_allPipes v_end v_next v_kind v_which v_place v_isPlan v_planMany v_planPipes v_planDays (upd (upd w_way ((((8 : Int32) * a1) + a2)).toNatClampNeg a3) ((((8 : Int32) * a2) + a1)).toNatClampNeg a3))) rfl dX7_way_75 (fun H locs hP hD hS => ?_)
    refine lv_iconst (v := (1 : Int32)) hx hb dX7_way_76 (by decide) ?_
    have ho := Option.some.inj hsh
    rw [← ho] at hret
    exact hret _ _ _ _ nar1 dX7_way_77 hP hD hS
  refine lv_aload_n hx hb dX7_way_0 rfl (lv_at hl 0 rfl) ?_
  refine lv_iconst (v := (0 : Int32)) hx hb dX7_way_1 (by decide) ?_
  refine kput (ci := 7) S hK hP hD hS rfl inX7_way_X7 tyX7_ok nmX7 0 rfl 2 (by decide) lkX7_way_88 rfl rfl rfl (Nat.le_of_ble_eq_true rfl) (ws' := (wdX7_way cI cJ cZ q_this q_tape q_prior q_pipesIn q_pipe q_met q_chance q_rock q_people q_bad q_well q_ends q_runs q_way q_words q_told q_weight q_days q_depth q_bestDepth q_hopes q_planOf q_planDepth v_tapeSize (0 : Int32) v_salt v_dry v_rest v_fault v_faultPlace v_rocks v_villages v_day v_at v_allPipes v_end v_next v_kind v_which v_place v_isPlan v_planMany v_planPipes v_planDays w_way)) rfl dX7_way_2 (fun H locs hP hD hS => ?_)
  refine lv_iload_n hx hb dX7_way_5 rfl (lv_at hl 1 rfl) ?_
  refine lv_if_lt (tgt := 50) hx hb dX7_way_6 (by decide) (fun c1 => ?_) (fun c1 => ?_)
  · skip
    have hsh := ite_t hsh c1
    refine lv_iconst (v := (0 : Int32)) hx hb dX7_way_50 (by decide) ?_
    have ho := Option.some.inj hsh
    rw [← ho] at hret
    exact hret _ _ _ _ nar0 dX7_way_51 hP hD hS
  · skip
    have hsh := ite_f hsh c1
    refine lv_iload_n hx hb dX7_way_9 rfl (lv_at hl 1 rfl) ?_
    refine lv_aload_n hx hb dX7_way_10 rfl (lv_at hl 0 rfl) ?_
    refine kget (ci := 7) S hK hP rfl inX7_way_X7 0 rfl 14 (by decide) lkX7_way_143 rfl dX7_way_11 ?_
    refine lv_icmp_gt (tgt := 50) hx hb dX7_way_14 (by decide) (fun c1 => ?_) (fun c1 => ?_)
    · skip
      have hsh := ite_t hsh c1
      refine lv_iconst (v := (0 : Int32)) hx hb dX7_way_50 (by decide) ?_
      have ho := Option.some.inj hsh
      rw [← ho] at hret
      exact hret _ _ _ _ nar0 dX7_way_51 hP hD hS
    · skip
      have hsh := ite_f hsh c1
      refine lv_iload_n hx hb dX7_way_17 rfl (lv_at hl 2 rfl) ?_
      refine lv_if_lt (tgt := 50) hx hb dX7_way_18 (by decide) (fun c1 => ?_) (fun c1 => ?_)
      · skip
        have hsh := ite_t hsh c1
        refine lv_iconst (v := (0 : Int32)) hx hb dX7_way_50 (by decide) ?_
        have ho := Option.some.inj hsh
        rw [← ho] at hret
        exact hret _ _ _ _ nar0 dX7_way_51 hP hD hS
      · skip
        have hsh := ite_f hsh c1
        refine lv_iload_n hx hb dX7_way_21 rfl (lv_at hl 2 rfl) ?_
        refine lv_aload_n hx hb dX7_way_22 rfl (lv_at hl 0 rfl) ?_
        refine kget (ci := 7) S hK hP rfl inX7_way_X7 0 rfl 14 (by decide) lkX7_way_143 rfl dX7_way_23 ?_
        refine lv_icmp_gt (tgt := 50) hx hb dX7_way_26 (by decide) (fun c1 => ?_) (fun c1 => ?_)
        · skip
          have hsh := ite_t hsh c1
          refine lv_iconst (v := (0 : Int32)) hx hb dX7_way_50 (by decide) ?_
          have ho := Option.some.inj hsh
          rw [← ho] at hret
          exact hret _ _ _ _ nar0 dX7_way_51 hP hD hS
        · skip
          have hsh := ite_f hsh c1
          refine lv_iload_n hx hb dX7_way_29 rfl (lv_at hl 1 rfl) ?_
          refine lv_iload_n hx hb dX7_way_30 rfl (lv_at hl 2 rfl) ?_
          refine lv_icmp_eq (tgt := 50) hx hb dX7_way_31 (by decide) (fun c1 => ?_) (fun c1 => ?_)
          · skip
            have hsh := ite_t hsh c1
            refine lv_iconst (v := (0 : Int32)) hx hb dX7_way_50 (by decide) ?_
            have ho := Option.some.inj hsh
            rw [← ho] at hret
            exact hret _ _ _ _ nar0 dX7_way_51 hP hD hS
          · skip
            have hsh := ite_f hsh c1
            refine lv_iload_n hx hb dX7_way_34 rfl (lv_at hl 3 rfl) ?_
            refine lv_iconst (v := (-1 : Int32)) hx hb dX7_way_35 (by decide) ?_
            refine lv_icmp_eq (tgt := 52) hx hb dX7_way_36 (by decide) (fun c1 => ?_) (fun c1 => ?_)
            · skip
              have hsh := ite_t hsh c1
              exact Jj_52 (0 : Int32) H locs hP hD hS ls (lv_sub hl [0, 1, 2, 3] rfl) hsh
            · skip
              have hsh := ite_f hsh c1
              refine lv_iload_n hx hb dX7_way_39 rfl (lv_at hl 3 rfl) ?_
              refine lv_iconst (v := (1 : Int32)) hx hb dX7_way_40 (by decide) ?_
              refine lv_icmp_lt (tgt := 50) hx hb dX7_way_41 (by decide) (fun c1 => ?_) (fun c1 => ?_)
              · skip
                have hsh := ite_t hsh c1
                refine lv_iconst (v := (0 : Int32)) hx hb dX7_way_50 (by decide) ?_
                have ho := Option.some.inj hsh
                rw [← ho] at hret
                exact hret _ _ _ _ nar0 dX7_way_51 hP hD hS
              · skip
                have hsh := ite_f hsh c1
                refine lv_iload_n hx hb dX7_way_44 rfl (lv_at hl 3 rfl) ?_
                refine lv_bipush (v := (9 : Int32)) hx hb dX7_way_45 (by decide) ?_
                refine lv_icmp_le (tgt := 52) hx hb dX7_way_47 (by decide) (fun c1 => ?_) (fun c1 => ?_)
                · skip
                  have hsh := ite_t hsh c1
                  exact Jj_52 (0 : Int32) H locs hP hD hS ls (lv_sub hl [0, 1, 2, 3] rfl) hsh
                · skip
                  have hsh := ite_f hsh c1
                  refine lv_iconst (v := (0 : Int32)) hx hb dX7_way_50 (by decide) ?_
                  have ho := Option.some.inj hsh
                  rw [← ho] at hret
                  exact hret _ _ _ _ nar0 dX7_way_51 hP hD hS

/-! DryWellsModel.go -/
noncomputable def shX7_go (a1 : Int32) (v_thrown : Int32) (v_villages : Int32) (v_day : Int32) (v_at : Int32) (w_way : Nat → Int32) : Option (Int32 × Int32 × Int32 × Int32) :=
  (if a1 < 0 then some ((-1 : Int32), (0 : Int32), v_day, v_at) else (if v_villages < a1 then some ((-1 : Int32), (0 : Int32), v_day, v_at) else (if a1 = v_at then some ((-1 : Int32), (0 : Int32), v_day, v_at) else ((gd (((8 : Int32) * v_at) + a1) 64).bind fun _ => (if (w_way ((((8 : Int32) * v_at) + a1)).toNatClampNeg) < 0 then some ((-1 : Int32), (0 : Int32), v_day, v_at) else ((gd (((8 : Int32) * v_at) + a1) 64).bind fun _ => (if (v_day + (w_way ((((8 : Int32) * v_at) + a1)).toNatClampNeg)) ≤ (9999 : Int32) then ((gd (((8 : Int32) * v_at) + a1) 64).bind fun _ => some ((v_day + (w_way ((((8 : Int32) * v_at) + a1)).toNatClampNeg)), (0 : Int32), (v_day + (w_way ((((8 : Int32) * v_at) + a1)).toNatClampNeg)), a1)) else some ((-1 : Int32), (0 : Int32), v_day, v_at))))))))
def wdX7_go (cI cJ cZ : ClassId) (q_this q_tape q_prior q_pipesIn q_pipe q_met q_chance q_rock q_people q_bad q_well q_ends q_runs q_way q_words q_told q_weight q_days q_depth q_bestDepth q_hopes q_planOf q_planDepth : Nat) (v_tapeSize : Int32) (v_thrown : Int32) (v_salt : Int32) (v_dry : Int32) (v_rest : Int32) (v_fault : Int32) (v_faultPlace : Int32) (v_rocks : Int32) (v_villages : Int32) (v_day : Int32) (v_at : Int32) (v_allPipes : Int32) (v_end : Int32) (v_next : Int32) (v_kind : Int32) (v_which : Int32) (v_place : Int32) (v_isPlan : Int32) (v_planMany : Int32) (v_planPipes : Int32) (v_planDays : Int32) (w_way : Nat → Int32) : va_W := [(q_this, .inr (7, [.ref q_tape, .int v_tapeSize, .int v_thrown, .int v_salt, .int v_dry, .int v_rest, .int v_fault, .int v_faultPlace, .int v_rocks, .ref q_prior, .ref q_pipesIn, .ref q_pipe, .ref q_met, .ref q_chance, .int v_villages, .ref q_rock, .ref q_people, .ref q_bad, .ref q_well, .ref q_ends, .ref q_runs, .ref q_way, .int v_day, .int v_at, .int v_allPipes, .ref q_words, .int v_end, .int v_next, .int v_kind, .int v_which, .int v_place, .ref q_told, .ref q_weight, .ref q_days, .ref q_depth, .ref q_bestDepth, .ref q_hopes, .int v_isPlan, .int v_planMany, .int v_planPipes, .int v_planDays, .ref q_planOf, .ref q_planDepth])), (q_way, .inl (cI, 64, .inl w_way))]
abbrev rmX7_go : Room := { frames := 0, cells := 0, slots := 0, locals := 0 }
theorem inX7_go_X7 : ∀ w ∈ u_ws RX7 TX7 43, w ∈ wsX7_go := fun _ h => List.mem_cons_of_mem _ (List.mem_append_right _ h)
theorem lkX7_go_88 : Cond.fieldLink RX7 88 (TX7 2).1 (TX7 2).2.1 (TX7 2).2.2.1 ∈ wsX7_go := List.mem_of_getElem? (i := 1) rfl
theorem lkX7_go_143 : Cond.fieldLink RX7 143 (TX7 14).1 (TX7 14).2.1 (TX7 14).2.2.1 ∈ wsX7_go := List.mem_of_getElem? (i := 2) rfl
theorem lkX7_go_146 : Cond.fieldLink RX7 146 (TX7 23).1 (TX7 23).2.1 (TX7 23).2.2.1 ∈ wsX7_go := List.mem_of_getElem? (i := 3) rfl
theorem lkX7_go_57 : Cond.fieldLink RX7 57 (TX7 21).1 (TX7 21).2.1 (TX7 21).2.2.1 ∈ wsX7_go := List.mem_of_getElem? (i := 4) rfl
theorem lkX7_go_149 : Cond.fieldLink RX7 149 (TX7 22).1 (TX7 22).2.1 (TX7 22).2.2.1 ∈ wsX7_go := List.mem_of_getElem? (i := 5) rfl
theorem hdX7_go : yX7_go.cls = RX7 ∧ yX7_go.cls ≠ "java/lang/invoke/MethodHandle" ∧ yX7_go.cls ≠ "java/lang/invoke/VarHandle" ∧ (parseMethodDescriptor yX7_go.desc).map (fun d => d.parameters.length) = some 1 := by decide +kernel
set_option maxHeartbeats 4000000 in
set_option maxRecDepth 100000 in
theorem ctX7_go (l : Launch) (D : va_G) (cI cJ cZ : ClassId) (q_this q_tape q_prior q_pipesIn q_pipe q_met q_chance q_rock q_people q_bad q_well q_ends q_runs q_way q_words q_told q_weight q_days q_depth q_bestDepth q_hopes q_planOf q_planDepth : Nat) (v_tapeSize : Int32) (v_thrown : Int32) (v_salt : Int32) (v_dry : Int32) (v_rest : Int32) (v_fault : Int32) (v_faultPlace : Int32) (v_rocks : Int32) (v_villages : Int32) (v_day : Int32) (v_at : Int32) (v_allPipes : Int32) (v_end : Int32) (v_next : Int32) (v_kind : Int32) (v_which : Int32) (v_place : Int32) (v_isPlan : Int32) (v_planMany : Int32) (v_planPipes : Int32) (v_planDays : Int32) (w_way : Nat → Int32) (a1 : Int32) (o : Int32 × Int32 × Int32 × Int32) (hsh : shX7_go a1 v_thrown v_villages v_day v_at w_way = some o) : CtI l yX7_go wsX7_go rmX7_go D (tys3 cI cJ cZ) noE (wdX7_go cI cJ cZ q_this q_tape q_prior q_pipesIn q_pipe q_met q_chance q_rock q_people q_bad q_well q_ends q_runs q_way q_words q_told q_weight q_days q_depth q_bestDepth q_hopes q_planOf q_planDepth v_tapeSize v_thrown v_salt v_dry v_rest v_fault v_faultPlace v_rocks v_villages v_day v_at v_allPipes v_end v_next v_kind v_which v_place v_isPlan v_planMany v_planPipes v_planDays w_way) [.ref q_this, .int a1] o.1 (wdX7_go cI cJ cZ q_this q_tape q_prior q_pipesIn q_pipe q_met q_chance q_rock q_people q_bad q_well q_ends q_runs q_way q_words q_told q_weight q_days q_depth q_bestDepth q_hopes q_planOf q_planDepth v_tapeSize o.2.1 v_salt v_dry v_rest v_fault v_faultPlace v_rocks v_villages o.2.2.1 o.2.2.2 v_allPipes v_end v_next v_kind v_which v_place v_isPlan v_planMany v_planPipes v_planDays w_way) := by
  refine ctI plX7 rfl (Nat.le_of_ble_eq_true rfl) ?_
  intro p e s m below meth c A Q S hK hA hE hret H locs hP hD hS ls hl
  replace S : CallFix p m c cX7_go 2 s _ wsX7_go RX7 := S
  generalize ([.ref q_this, .int a1] : List Value).toArray = args at S hret ⊢
  obtain ⟨hx, hb, hml, hown, hts⟩ := id S
  replace hl : lv_has ls 2 [(0, .ref q_this), (1, .int a1)] := hl
  unfold shX7_go at hsh
  refine lv_aload_n hx hb dX7_go_0 rfl (lv_at hl 0 rfl) ?_
  refine lv_iconst (v := (0 : Int32)) hx hb dX7_go_1 (by decide) ?_
  refine kput (ci := 7) S hK hP hD hS rfl inX7_go_X7 tyX7_ok nmX7 0 rfl 2 (by decide) lkX7_go_88 rfl rfl rfl (Nat.le_of_ble_eq_true rfl) (ws' := (wdX7_go cI cJ cZ q_this q_tape q_prior q_pipesIn q_pipe q_met q_chance q_rock q_people q_bad q_well q_ends q_runs q_way q_words q_told q_weight q_days q_depth q_bestDepth q_hopes q_planOf q_planDepth v_tapeSize (0 : Int32) v_salt v_dry v_rest v_fault v_faultPlace v_rocks v_villages v_day v_at v_allPipes v_end v_next v_kind v_which v_place v_isPlan v_planMany v_planPipes v_planDays w_way)) rfl dX7_go_2 (fun H locs hP hD hS => ?_)
  refine lv_iload_n hx hb dX7_go_5 rfl (lv_at hl 1 rfl) ?_
  refine lv_if_lt (tgt := 67) hx hb dX7_go_6 (by decide) (fun c1 => ?_) (fun c1 => ?_)
  · skip
    have hsh := ite_t hsh c1
    refine lv_iconst (v := (-1 : Int32)) hx hb dX7_go_67 (by decide) ?_
    have ho := Option.some.inj hsh
    rw [← ho] at hret
    exact hret _ _ _ _ dX7_go_68 hP hD hS
  · skip
    have hsh := ite_f hsh c1
    refine lv_iload_n hx hb dX7_go_9 rfl (lv_at hl 1 rfl) ?_
    refine lv_aload_n hx hb dX7_go_10 rfl (lv_at hl 0 rfl) ?_
    refine kget (ci := 7) S hK hP rfl inX7_go_X7 0 rfl 14 (by decide) lkX7_go_143 rfl dX7_go_11 ?_
    refine lv_icmp_gt (tgt := 67) hx hb dX7_go_14 (by decide) (fun c1 => ?_) (fun c1 => ?_)
    · skip
      have hsh := ite_t hsh c1
      refine lv_iconst (v := (-1 : Int32)) hx hb dX7_go_67 (by decide) ?_
      have ho := Option.some.inj hsh
      rw [← ho] at hret
      exact hret _ _ _ _ dX7_go_68 hP hD hS
    · skip
      have hsh := ite_f hsh c1
      refine lv_iload_n hx hb dX7_go_17 rfl (lv_at hl 1 rfl) ?_
      refine lv_aload_n hx hb dX7_go_18 rfl (lv_at hl 0 rfl) ?_
      refine kget (ci := 7) S hK hP rfl inX7_go_X7 0 rfl 23 (by decide) lkX7_go_146 rfl dX7_go_19 ?_
      refine lv_icmp_eq (tgt := 67) hx hb dX7_go_22 (by decide) (fun c1 => ?_) (fun c1 => ?_)
      · skip
        have hsh := ite_t hsh c1
        refine lv_iconst (v := (-1 : Int32)) hx hb dX7_go_67 (by decide) ?_
        have ho := Option.some.inj hsh
        rw [← ho] at hret
        exact hret _ _ _ _ dX7_go_68 hP hD hS
      · skip
        have hsh := ite_f hsh c1
        refine lv_aload_n hx hb dX7_go_25 rfl (lv_at hl 0 rfl) ?_
        refine kget (ci := 7) S hK hP rfl inX7_go_X7 0 rfl 21 (by decide) lkX7_go_57 rfl dX7_go_26 ?_
        refine lv_bipush (v := (8 : Int32)) hx hb dX7_go_29 (by decide) ?_
        refine lv_aload_n hx hb dX7_go_31 rfl (lv_at hl 0 rfl) ?_
        refine kget (ci := 7) S hK hP rfl inX7_go_X7 0 rfl 23 (by decide) lkX7_go_146 rfl dX7_go_32 ?_
        refine lv_imul hx hb dX7_go_35 ?_
        refine lv_iload_n hx hb dX7_go_36 rfl (lv_at hl 1 rfl) ?_
        refine lv_iadd hx hb dX7_go_37 ?_
        obtain ⟨_, hg, hsh⟩ := bd hsh
        refine kial S hK hP 1 0 rfl rfl (gd_in hg) dX7_go_38 ?_
        refine lv_if_lt (tgt := 67) hx hb dX7_go_39 (by decide) (fun c1 => ?_) (fun c1 => ?_)
        · skip
          have hsh := ite_t hsh c1
          refine lv_iconst (v := (-1 : Int32)) hx hb dX7_go_67 (by decide) ?_
          have ho := Option.some.inj hsh
          rw [← ho] at hret
          exact hret _ _ _ _ dX7_go_68 hP hD hS
        · skip
          have hsh := ite_f hsh c1
          refine lv_aload_n hx hb dX7_go_42 rfl (lv_at hl 0 rfl) ?_
          refine kget (ci := 7) S hK hP rfl inX7_go_X7 0 rfl 22 (by decide) lkX7_go_149 rfl dX7_go_43 ?_
          refine lv_aload_n hx hb dX7_go_46 rfl (lv_at hl 0 rfl) ?_
          refine kget (ci := 7) S hK hP rfl inX7_go_X7 0 rfl 21 (by decide) lkX7_go_57 rfl dX7_go_47 ?_
          refine lv_bipush (v := (8 : Int32)) hx hb dX7_go_50 (by decide) ?_
          refine lv_aload_n hx hb dX7_go_52 rfl (lv_at hl 0 rfl) ?_
          refine kget (ci := 7) S hK hP rfl inX7_go_X7 0 rfl 23 (by decide) lkX7_go_146 rfl dX7_go_53 ?_
          refine lv_imul hx hb dX7_go_56 ?_
          refine lv_iload_n hx hb dX7_go_57 rfl (lv_at hl 1 rfl) ?_
          refine lv_iadd hx hb dX7_go_58 ?_
          obtain ⟨_, hg, hsh⟩ := bd hsh
          refine kial S hK hP 1 0 rfl rfl (gd_in hg) dX7_go_59 ?_
          refine lv_iadd hx hb dX7_go_60 ?_
          refine lv_sipush (v := (9999 : Int32)) hx hb dX7_go_61 (by decide) ?_
          refine lv_icmp_le (tgt := 69) hx hb dX7_go_64 (by decide) (fun c1 => ?_) (fun c1 => ?_)
          · skip
            have hsh := ite_t hsh c1
            refine lv_aload_n hx hb dX7_go_69 rfl (lv_at hl 0 rfl) ?_
            refine lv_dup hx hb dX7_go_70 rfl ?_
            refine kget (ci := 7) S hK hP rfl inX7_go_X7 0 rfl 22 (by decide) lkX7_go_149 rfl dX7_go_71 ?_
            refine lv_aload_n hx hb dX7_go_74 rfl (lv_at hl 0 rfl) ?_
            refine kget (ci := 7) S hK hP rfl inX7_go_X7 0 rfl 21 (by decide) lkX7_go_57 rfl dX7_go_75 ?_
            refine lv_bipush (v := (8 : Int32)) hx hb dX7_go_78 (by decide) ?_
            refine lv_aload_n hx hb dX7_go_80 rfl (lv_at hl 0 rfl) ?_
            refine kget (ci := 7) S hK hP rfl inX7_go_X7 0 rfl 23 (by decide) lkX7_go_146 rfl dX7_go_81 ?_
            refine lv_imul hx hb dX7_go_84 ?_
            refine lv_iload_n hx hb dX7_go_85 rfl (lv_at hl 1 rfl) ?_
            refine lv_iadd hx hb dX7_go_86 ?_
            obtain ⟨_, hg, hsh⟩ := bd hsh
            refine kial S hK hP 1 0 rfl rfl (gd_in hg) dX7_go_87 ?_
            refine lv_iadd hx hb dX7_go_88 ?_
            refine kput (ci := 7) S hK hP hD hS rfl inX7_go_X7 tyX7_ok nmX7 0 rfl 22 (by decide) lkX7_go_149 rfl rfl rfl (Nat.le_of_ble_eq_true rfl) (ws' := (wdX7_go cI cJ cZ q_this q_tape q_prior q_pipesIn q_pipe q_met q_chance q_rock q_people q_bad q_well q_ends q_runs q_way q_words q_told q_weight q_days q_depth q_bestDepth q_hopes q_planOf q_planDepth v_tapeSize (0 : Int32) v_salt v_dry v_rest v_fault v_faultPlace v_rocks v_villages (v_day + (w_way ((((8 : Int32) * v_at) + a1)).toNatClampNeg)) v_at v_allPipes v_end v_next v_kind v_which v_place v_isPlan v_planMany v_planPipes v_planDays w_way)) rfl dX7_go_89 (fun H locs hP hD hS => ?_)
            refine lv_aload_n hx hb dX7_go_92 rfl (lv_at hl 0 rfl) ?_
            refine lv_iload_n hx hb dX7_go_93 rfl (lv_at hl 1 rfl) ?_
            refine kput (ci := 7) S hK hP hD hS rfl inX7_go_X7 tyX7_ok nmX7 0 rfl 23 (by decide) lkX7_go_146 rfl rfl rfl (Nat.le_of_ble_eq_true rfl) (ws' := (wdX7_go cI cJ cZ q_this q_tape q_prior q_pipesIn q_pipe q_met q_chance q_rock q_people q_bad q_well q_ends q_runs q_way q_words q_told q_weight q_days q_depth q_bestDepth q_hopes q_planOf q_planDepth v_tapeSize (0 : Int32) v_salt v_dry v_rest v_fault v_faultPlace v_rocks v_villages (v_day + (w_way ((((8 : Int32) * v_at) + a1)).toNatClampNeg)) a1 v_allPipes v_end v_next v_kind v_which v_place v_isPlan v_planMany v_planPipes v_planDays w_way)) rfl dX7_go_94 (fun H locs hP hD hS => ?_)
            refine lv_aload_n hx hb dX7_go_97 rfl (lv_at hl 0 rfl) ?_
            refine kget (ci := 7) S hK hP rfl inX7_go_X7 0 rfl 22 (by decide) lkX7_go_149 rfl dX7_go_98 ?_
            have ho := Option.some.inj hsh
            rw [← ho] at hret
            exact hret _ _ _ _ dX7_go_101 hP hD hS
          · skip
            have hsh := ite_f hsh c1
            refine lv_iconst (v := (-1 : Int32)) hx hb dX7_go_67 (by decide) ?_
            have ho := Option.some.inj hsh
            rw [← ho] at hret
            exact hret _ _ _ _ dX7_go_68 hP hD hS

/-! DryWellsModel.drill -/
noncomputable def shX7_drill_j_223 (a2 : Int32) (v_at : Int32) (w_bad : Nat → Int32) (w_well : Nat → Int32) (v_thrown_j_223 : Int32) (v_day_j_223 : Int32) (v_allPipes_j_223 : Int32) (w_pipesIn_j_223 : Nat → Int32) (w_pipe_j_223 : Nat → Int32) (w_met_j_223 : Nat → Int32) : Option (Int32 × Int32 × Int32 × Int32 × (Nat → Int32) × (Nat → Int32) × (Nat → Int32) × (Nat → Int32) × (Nat → Int32)) :=
  ((gd v_at 8).bind fun _ => ((gd v_at 8).bind fun _ => (if a2 = 0 then some ((0 : Int32), v_thrown_j_223, v_day_j_223, v_allPipes_j_223, w_pipesIn_j_223, w_pipe_j_223, w_met_j_223, (upd w_bad (v_at).toNatClampNeg ((w_bad (v_at).toNatClampNeg) + (1 : Int32))), w_well) else some ((2 : Int32), v_thrown_j_223, v_day_j_223, v_allPipes_j_223, w_pipesIn_j_223, w_pipe_j_223, w_met_j_223, (upd w_bad (v_at).toNatClampNeg ((w_bad (v_at).toNatClampNeg) + (1 : Int32))), w_well))))
noncomputable def shX7_drill_j_174 (a1 : Int32) (a2 : Int32) (a3 : Int32) (v_salt : Int32) (v_rest : Int32) (v_day : Int32) (v_at : Int32) (v_allPipes : Int32) (w_bad : Nat → Int32) (w_well : Nat → Int32) (v_thrown_j_174 : Int32) (w_pipesIn_j_174 : Nat → Int32) (w_pipe_j_174 : Nat → Int32) (w_met_j_174 : Nat → Int32) : Option (Int32 × Int32 × Int32 × Int32 × (Nat → Int32) × (Nat → Int32) × (Nat → Int32) × (Nat → Int32) × (Nat → Int32)) :=
  (if a2 = 0 then (shX7_drill_j_223 a2 v_at w_bad w_well v_thrown_j_174 (v_day + (a1 + v_rest)) (v_allPipes + a1) w_pipesIn_j_174 w_pipe_j_174 w_met_j_174) else (if v_salt < a3 then (shX7_drill_j_223 a2 v_at w_bad w_well v_thrown_j_174 (v_day + (a1 + v_rest)) (v_allPipes + a1) w_pipesIn_j_174 w_pipe_j_174 w_met_j_174) else ((gd v_at 8).bind fun _ => some ((1 : Int32), v_thrown_j_174, (v_day + (a1 + v_rest)), (v_allPipes + a1), w_pipesIn_j_174, w_pipe_j_174, w_met_j_174, w_bad, (upd w_well (v_at).toNatClampNeg a1)))))
noncomputable def shX7_drill_k98_156 (v_at : Int32) (w_rock : Nat → Int32) (x5_98 : Int32) (w_pipesIn_98 : Nat → Int32) (w_met_98 : Nat → Int32) (s1_k98_156 : Int32) (s2_k98_156 : Int32) (w_pipe_k98_156 : Nat → Int32) : Option ((Int32 × (Nat → Int32) × (Nat → Int32) × (Nat → Int32)) ⊕ (((Nat → Int32) × (Nat → Int32) × (Nat → Int32)))) :=
  ((gd s1_k98_156 32).bind fun _ => ((gd (w_rock (v_at).toNatClampNeg) 4).bind fun _ => ((gd (w_rock (v_at).toNatClampNeg) 4).bind fun _ => some (Sum.inl ((x5_98 + (1 : Int32)), (upd w_pipesIn_98 ((w_rock (v_at).toNatClampNeg)).toNatClampNeg ((w_pipesIn_98 ((w_rock (v_at).toNatClampNeg)).toNatClampNeg) + (1 : Int32))), w_pipe_k98_156, (upd w_met_98 (s1_k98_156).toNatClampNeg (vp_nar .boolean s2_k98_156)))))))
noncomputable def shX7_drill_k98_155 (v_at : Int32) (w_rock : Nat → Int32) (x5_98 : Int32) (w_pipesIn_98 : Nat → Int32) (w_met_98 : Nat → Int32) (s1_k98_155 : Int32) (w_pipe_k98_155 : Nat → Int32) : Option ((Int32 × (Nat → Int32) × (Nat → Int32) × (Nat → Int32)) ⊕ (((Nat → Int32) × (Nat → Int32) × (Nat → Int32)))) :=
  (shX7_drill_k98_156 v_at w_rock x5_98 w_pipesIn_98 w_met_98 s1_k98_155 (0 : Int32) w_pipe_k98_155)
noncomputable def shX7_drill_L98 (a1 : Int32) (a2 : Int32) (v_at : Int32) (w_rock : Nat → Int32) (x5_98 : Int32) (w_pipesIn_98 : Nat → Int32) (w_pipe_98 : Nat → Int32) (w_met_98 : Nat → Int32) : Option ((Int32 × (Nat → Int32) × (Nat → Int32) × (Nat → Int32)) ⊕ (((Nat → Int32) × (Nat → Int32) × (Nat → Int32)))) :=
  (if a1 < x5_98 then some (Sum.inr (w_pipesIn_98, w_pipe_98, w_met_98)) else ((gd (w_rock (v_at).toNatClampNeg) 4).bind fun _ => ((gd (((8 : Int32) * (w_rock (v_at).toNatClampNeg)) + (w_pipesIn_98 ((w_rock (v_at).toNatClampNeg)).toNatClampNeg)) 32).bind fun _ => ((gd (w_rock (v_at).toNatClampNeg) 4).bind fun _ => (if a2 = 0 then (shX7_drill_k98_155 v_at w_rock x5_98 w_pipesIn_98 w_met_98 (((8 : Int32) * (w_rock (v_at).toNatClampNeg)) + (w_pipesIn_98 ((w_rock (v_at).toNatClampNeg)).toNatClampNeg)) (upd w_pipe_98 ((((8 : Int32) * (w_rock (v_at).toNatClampNeg)) + (w_pipesIn_98 ((w_rock (v_at).toNatClampNeg)).toNatClampNeg))).toNatClampNeg x5_98)) else (if ¬ x5_98 = a1 then (shX7_drill_k98_155 v_at w_rock x5_98 w_pipesIn_98 w_met_98 (((8 : Int32) * (w_rock (v_at).toNatClampNeg)) + (w_pipesIn_98 ((w_rock (v_at).toNatClampNeg)).toNatClampNeg)) (upd w_pipe_98 ((((8 : Int32) * (w_rock (v_at).toNatClampNeg)) + (w_pipesIn_98 ((w_rock (v_at).toNatClampNeg)).toNatClampNeg))).toNatClampNeg x5_98)) else (shX7_drill_k98_156 v_at w_rock x5_98 w_pipesIn_98 w_met_98 (((8 : Int32) * (w_rock (v_at).toNatClampNeg)) + (w_pipesIn_98 ((w_rock (v_at).toNatClampNeg)).toNatClampNeg)) (1 : Int32) (upd w_pipe_98 ((((8 : Int32) * (w_rock (v_at).toNatClampNeg)) + (w_pipesIn_98 ((w_rock (v_at).toNatClampNeg)).toNatClampNeg))).toNatClampNeg x5_98))))))))
noncomputable def shX7_drill_j_51 (a1 : Int32) (a2 : Int32) (a3 : Int32) (v_salt : Int32) (v_rest : Int32) (v_day : Int32) (v_at : Int32) (v_allPipes : Int32) (w_pipesIn : Nat → Int32) (w_pipe : Nat → Int32) (w_met : Nat → Int32) (w_rock : Nat → Int32) (w_bad : Nat → Int32) (w_well : Nat → Int32) (v_thrown_j_51 : Int32) : Option (Int32 × Int32 × Int32 × Int32 × (Nat → Int32) × (Nat → Int32) × (Nat → Int32) × (Nat → Int32) × (Nat → Int32)) :=
  ((gd v_at 8).bind fun _ => ((gd (w_rock (v_at).toNatClampNeg) 4).bind fun _ => (if (8 : Int32) < ((w_pipesIn ((w_rock (v_at).toNatClampNeg)).toNatClampNeg) + a1) then some ((-1 : Int32), v_thrown_j_51, v_day, v_allPipes, w_pipesIn, w_pipe, w_met, w_bad, w_well) else (if ((v_day + a1) + v_rest) ≤ (9999 : Int32) then ((lp (fun s : Int32 × (Nat → Int32) × (Nat → Int32) × (Nat → Int32) => shX7_drill_L98 a1 a2 v_at w_rock s.1 s.2.1 s.2.2.1 s.2.2.2) ((1 : Int32), w_pipesIn, w_pipe, w_met)).bind (fun p : (Nat → Int32) × (Nat → Int32) × (Nat → Int32) => shX7_drill_j_174 a1 a2 a3 v_salt v_rest v_day v_at v_allPipes w_bad w_well v_thrown_j_51 p.1 p.2.1 p.2.2)) else some ((-1 : Int32), v_thrown_j_51, v_day, v_allPipes, w_pipesIn, w_pipe, w_met, w_bad, w_well)))))
noncomputable def shX7_drill (a1 : Int32) (a2 : Int32) (a3 : Int32) (v_thrown : Int32) (v_salt : Int32) (v_rest : Int32) (v_day : Int32) (v_at : Int32) (v_allPipes : Int32) (w_pipesIn : Nat → Int32) (w_pipe : Nat → Int32) (w_met : Nat → Int32) (w_rock : Nat → Int32) (w_bad : Nat → Int32) (w_well : Nat → Int32) : Option (Int32 × Int32 × Int32 × Int32 × (Nat → Int32) × (Nat → Int32) × (Nat → Int32) × (Nat → Int32) × (Nat → Int32)) :=
  (if v_at = 0 then some ((-1 : Int32), (0 : Int32), v_day, v_allPipes, w_pipesIn, w_pipe, w_met, w_bad, w_well) else ((gd v_at 8).bind fun _ => (if 0 < (w_well (v_at).toNatClampNeg) then some ((-1 : Int32), (0 : Int32), v_day, v_allPipes, w_pipesIn, w_pipe, w_met, w_bad, w_well) else (if a1 < (1 : Int32) then some ((-1 : Int32), (0 : Int32), v_day, v_allPipes, w_pipesIn, w_pipe, w_met, w_bad, w_well) else (if (4 : Int32) < a1 then some ((-1 : Int32), (0 : Int32), v_day, v_allPipes, w_pipesIn, w_pipe, w_met, w_bad, w_well) else (if a2 = 0 then (shX7_drill_j_51 a1 a2 a3 v_salt v_rest v_day v_at v_allPipes w_pipesIn w_pipe w_met w_rock w_bad w_well (0 : Int32)) else (if a3 < 0 then some ((-1 : Int32), (0 : Int32), v_day, v_allPipes, w_pipesIn, w_pipe, w_met, w_bad, w_well) else (if a3 ≤ (999 : Int32) then (shX7_drill_j_51 a1 a2 a3 v_salt v_rest v_day v_at v_allPipes w_pipesIn w_pipe w_met w_rock w_bad w_well (0 : Int32)) else some ((-1 : Int32), (0 : Int32), v_day, v_allPipes, w_pipesIn, w_pipe, w_met, w_bad, w_well)))))))))
def wdX7_drill (cI cJ cZ : ClassId) (q_this q_tape q_prior q_pipesIn q_pipe q_met q_chance q_rock q_people q_bad q_well q_ends q_runs q_way q_words q_told q_weight q_days q_depth q_bestDepth q_hopes q_planOf q_planDepth : Nat) (v_tapeSize : Int32) (v_thrown : Int32) (v_salt : Int32) (v_dry : Int32) (v_rest : Int32) (v_fault : Int32) (v_faultPlace : Int32) (v_rocks : Int32) (v_villages : Int32) (v_day : Int32) (v_at : Int32) (v_allPipes : Int32) (v_end : Int32) (v_next : Int32) (v_kind : Int32) (v_which : Int32) (v_place : Int32) (v_isPlan : Int32) (v_planMany : Int32) (v_planPipes : Int32) (v_planDays : Int32) (w_pipesIn : Nat → Int32) (w_pipe : Nat → Int32) (w_met : Nat → Int32) (w_rock : Nat → Int32) (w_bad : Nat → Int32) (w_well : Nat → Int32) : va_W := [(q_this, .inr (7, [.ref q_tape, .int v_tapeSize, .int v_thrown, .int v_salt, .int v_dry, .int v_rest, .int v_fault, .int v_faultPlace, .int v_rocks, .ref q_prior, .ref q_pipesIn, .ref q_pipe, .ref q_met, .ref q_chance, .int v_villages, .ref q_rock, .ref q_people, .ref q_bad, .ref q_well, .ref q_ends, .ref q_runs, .ref q_way, .int v_day, .int v_at, .int v_allPipes, .ref q_words, .int v_end, .int v_next, .int v_kind, .int v_which, .int v_place, .ref q_told, .ref q_weight, .ref q_days, .ref q_depth, .ref q_bestDepth, .ref q_hopes, .int v_isPlan, .int v_planMany, .int v_planPipes, .int v_planDays, .ref q_planOf, .ref q_planDepth])), (q_pipesIn, .inl (cI, 4, .inl w_pipesIn)), (q_pipe, .inl (cI, 32, .inl w_pipe)), (q_met, .inl (cZ, 32, .inl w_met)), (q_rock, .inl (cI, 8, .inl w_rock)), (q_bad, .inl (cI, 8, .inl w_bad)), (q_well, .inl (cI, 8, .inl w_well))]
abbrev rmX7_drill : Room := { frames := 0, cells := 0, slots := 0, locals := 0 }
theorem inX7_drill_X7 : ∀ w ∈ u_ws RX7 TX7 43, w ∈ wsX7_drill := fun _ h => List.mem_cons_of_mem _ (List.mem_append_right _ h)
theorem lkX7_drill_88 : Cond.fieldLink RX7 88 (TX7 2).1 (TX7 2).2.1 (TX7 2).2.2.1 ∈ wsX7_drill := List.mem_of_getElem? (i := 1) rfl
theorem lkX7_drill_146 : Cond.fieldLink RX7 146 (TX7 23).1 (TX7 23).2.1 (TX7 23).2.2.1 ∈ wsX7_drill := List.mem_of_getElem? (i := 2) rfl
theorem lkX7_drill_48 : Cond.fieldLink RX7 48 (TX7 18).1 (TX7 18).2.1 (TX7 18).2.2.1 ∈ wsX7_drill := List.mem_of_getElem? (i := 3) rfl
theorem lkX7_drill_39 : Cond.fieldLink RX7 39 (TX7 15).1 (TX7 15).2.1 (TX7 15).2.2.1 ∈ wsX7_drill := List.mem_of_getElem? (i := 4) rfl
theorem lkX7_drill_26 : Cond.fieldLink RX7 26 (TX7 10).1 (TX7 10).2.1 (TX7 10).2.2.1 ∈ wsX7_drill := List.mem_of_getElem? (i := 5) rfl
theorem lkX7_drill_149 : Cond.fieldLink RX7 149 (TX7 22).1 (TX7 22).2.1 (TX7 22).2.2.1 ∈ wsX7_drill := List.mem_of_getElem? (i := 6) rfl
theorem lkX7_drill_134 : Cond.fieldLink RX7 134 (TX7 5).1 (TX7 5).2.1 (TX7 5).2.2.1 ∈ wsX7_drill := List.mem_of_getElem? (i := 7) rfl
theorem lkX7_drill_152 : Cond.fieldLink RX7 152 (TX7 24).1 (TX7 24).2.1 (TX7 24).2.2.1 ∈ wsX7_drill := List.mem_of_getElem? (i := 10) rfl
theorem lkX7_drill_45 : Cond.fieldLink RX7 45 (TX7 17).1 (TX7 17).2.1 (TX7 17).2.2.1 ∈ wsX7_drill := List.mem_of_getElem? (i := 12) rfl
theorem lkX7_drill_13 : Cond.fieldLink RX7 13 (TX7 3).1 (TX7 3).2.1 (TX7 3).2.2.1 ∈ wsX7_drill := List.mem_of_getElem? (i := 11) rfl
theorem lkX7_drill_29 : Cond.fieldLink RX7 29 (TX7 11).1 (TX7 11).2.1 (TX7 11).2.2.1 ∈ wsX7_drill := List.mem_of_getElem? (i := 8) rfl
theorem lkX7_drill_32 : Cond.fieldLink RX7 32 (TX7 12).1 (TX7 12).2.1 (TX7 12).2.2.1 ∈ wsX7_drill := List.mem_of_getElem? (i := 9) rfl
theorem hdX7_drill : yX7_drill.cls = RX7 ∧ yX7_drill.cls ≠ "java/lang/invoke/MethodHandle" ∧ yX7_drill.cls ≠ "java/lang/invoke/VarHandle" ∧ (parseMethodDescriptor yX7_drill.desc).map (fun d => d.parameters.length) = some 3 := by decide +kernel
set_option maxHeartbeats 4000000 in
set_option maxRecDepth 100000 in
theorem ctX7_drill (l : Launch) (D : va_G) (cI cJ cZ : ClassId) (q_this q_tape q_prior q_pipesIn q_pipe q_met q_chance q_rock q_people q_bad q_well q_ends q_runs q_way q_words q_told q_weight q_days q_depth q_bestDepth q_hopes q_planOf q_planDepth : Nat) (v_tapeSize : Int32) (v_thrown : Int32) (v_salt : Int32) (v_dry : Int32) (v_rest : Int32) (v_fault : Int32) (v_faultPlace : Int32) (v_rocks : Int32) (v_villages : Int32) (v_day : Int32) (v_at : Int32) (v_allPipes : Int32) (v_end : Int32) (v_next : Int32) (v_kind : Int32) (v_which : Int32) (v_place : Int32) (v_isPlan : Int32) (v_planMany : Int32) (v_planPipes : Int32) (v_planDays : Int32) (w_pipesIn : Nat → Int32) (w_pipe : Nat → Int32) (w_met : Nat → Int32) (w_rock : Nat → Int32) (w_bad : Nat → Int32) (w_well : Nat → Int32) (a1 : Int32) (a2 : Int32) (a3 : Int32) (o : Int32 × Int32 × Int32 × Int32 × (Nat → Int32) × (Nat → Int32) × (Nat → Int32) × (Nat → Int32) × (Nat → Int32)) (hsh : shX7_drill a1 a2 a3 v_thrown v_salt v_rest v_day v_at v_allPipes w_pipesIn w_pipe w_met w_rock w_bad w_well = some o) : CtI l yX7_drill wsX7_drill rmX7_drill D (tys3 cI cJ cZ) noE (wdX7_drill cI cJ cZ q_this q_tape q_prior q_pipesIn q_pipe q_met q_chance q_rock q_people q_bad q_well q_ends q_runs q_way q_words q_told q_weight q_days q_depth q_bestDepth q_hopes q_planOf q_planDepth v_tapeSize v_thrown v_salt v_dry v_rest v_fault v_faultPlace v_rocks v_villages v_day v_at v_allPipes v_end v_next v_kind v_which v_place v_isPlan v_planMany v_planPipes v_planDays w_pipesIn w_pipe w_met w_rock w_bad w_well) [.ref q_this, .int a1, .int a2, .int a3] o.1 (wdX7_drill cI cJ cZ q_this q_tape q_prior q_pipesIn q_pipe q_met q_chance q_rock q_people q_bad q_well q_ends q_runs q_way q_words q_told q_weight q_days q_depth q_bestDepth q_hopes q_planOf q_planDepth v_tapeSize o.2.1 v_salt v_dry v_rest v_fault v_faultPlace v_rocks v_villages o.2.2.1 v_at o.2.2.2.1 v_end v_next v_kind v_which v_place v_isPlan v_planMany v_planPipes v_planDays o.2.2.2.2.1 o.2.2.2.2.2.1 o.2.2.2.2.2.2.1 w_rock o.2.2.2.2.2.2.2.1 o.2.2.2.2.2.2.2.2) := by
  refine ctI plX7 rfl (Nat.le_of_ble_eq_true rfl) ?_
  intro p e s m below meth c A Q S hK hA hE hret H locs hP hD hS ls hl
  replace S : CallFix p m c cX7_drill 6 s _ wsX7_drill RX7 := S
  generalize ([.ref q_this, .int a1, .int a2, .int a3] : List Value).toArray = args at S hret ⊢
  obtain ⟨hx, hb, hml, hown, hts⟩ := id S
  replace hl : lv_has ls 6 [(0, .ref q_this), (1, .int a1), (2, .int a2), (3, .int a3)] := hl
  unfold shX7_drill at hsh
  have Jj_223 : ∀ (v_thrown_j_223 : Int32) (v_day_j_223 : Int32) (v_allPipes_j_223 : Int32) (w_pipesIn_j_223 : Nat → Int32) (w_pipe_j_223 : Nat → Int32) (w_met_j_223 : Nat → Int32) (H : Heap) (locs : List Loc), va_P D vwCl (wdX7_drill cI cJ cZ q_this q_tape q_prior q_pipesIn q_pipe q_met q_chance q_rock q_people q_bad q_well q_ends q_runs q_way q_words q_told q_weight q_days q_depth q_bestDepth q_hopes q_planOf q_planDepth v_tapeSize v_thrown_j_223 v_salt v_dry v_rest v_fault v_faultPlace v_rocks v_villages v_day_j_223 v_at v_allPipes_j_223 v_end v_next v_kind v_which v_place v_isPlan v_planMany v_planPipes v_planDays w_pipesIn_j_223 w_pipe_j_223 w_met_j_223 w_rock w_bad w_well) H → va_D A (wdX7_drill cI cJ cZ q_this q_tape q_prior q_pipesIn q_pipe q_met q_chance q_rock q_people q_bad q_well q_ends q_runs q_way q_words q_told q_weight q_days q_depth q_bestDepth q_hopes q_planOf q_planDepth v_tapeSize v_thrown_j_223 v_salt v_dry v_rest v_fault v_faultPlace v_rocks v_villages v_day_j_223 v_at v_allPipes_j_223 v_end v_next v_kind v_which v_place v_isPlan v_planMany v_planPipes v_planDays w_pipesIn_j_223 w_pipe_j_223 w_met_j_223 w_rock w_bad w_well) → va_S A s.heap H locs → ∀ ls : Array Slot, lv_has ls 6 [(0, .ref q_this), (2, .int a2)] → shX7_drill_j_223 a2 v_at w_bad w_well v_thrown_j_223 v_day_j_223 v_allPipes_j_223 w_pipesIn_j_223 w_pipe_j_223 w_met_j_223 = some o → W p l e rmX7_drill s m args below meth c H locs 0 0 Q (F0 m 223 ls []) := by
    intro v_thrown_j_223 v_day_j_223 v_allPipes_j_223 w_pipesIn_j_223 w_pipe_j_223 w_met_j_223 H locs hP hD hS ls hl hsh
    unfold shX7_drill_j_223 at hsh
    refine lv_aload_n hx hb dX7_drill_223 rfl (lv_at hl 0 rfl) ?_
    refine kget (ci := 7) S hK hP rfl inX7_drill_X7 0 rfl 17 (by decide) lkX7_drill_45 rfl dX7_drill_224 ?_
    refine lv_aload_n hx hb dX7_drill_227 rfl (lv_at hl 0 rfl) ?_
    refine kget (ci := 7) S hK hP rfl inX7_drill_X7 0 rfl 23 (by decide) lkX7_drill_146 rfl dX7_drill_228 ?_
    refine lv_dup2_11 hx hb dX7_drill_231 rfl rfl ?_
    obtain ⟨_, hg, hsh⟩ := bd hsh
    refine kial S hK hP 5 0 rfl rfl (gd_in hg) dX7_drill_232 ?_
    refine lv_iconst (v := (1 : Int32)) hx hb dX7_drill_233 (by decide) ?_
    refine lv_iadd hx hb dX7_drill_234 ?_
    obtain ⟨_, hg, hsh⟩ := bd hsh
    refine kias S hK hP hD hS 5 0 rfl rfl (gd_in hg) (ws' := (wdX7_drill cI cJ cZ q_this q_tape q_prior q_pipesIn q_pipe q_met q_chance q_rock q_people q_bad q_well q_ends q_runs q_way q_words q_told q_weight q_days q_depth q_bestDepth q_hopes q_planOf q_planDepth v_tapeSize v_thrown_j_223 v_salt v_dry v_rest v_fault v_faultPlace v_rocks v_villages v_day_j_223 v_at v_allPipes_j_223 v_end v_next v_kind v_which v_place v_isPlan v_planMany v_planPipes v_planDays w_pipesIn_j_223 w_pipe_j_223 w_met_j_223 w_rock (upd w_bad (v_at).toNatClampNeg ((w_bad (v_at).toNatClampNeg) + (1 : Int32))) w_well)) rfl dX7_drill_235 (fun H locs hP hD hS => ?_)
    refine lv_iload_n hx hb dX7_drill_236 rfl (lv_at hl 1 rfl) ?_
    refine lv_if_eq (tgt := 244) hx hb dX7_drill_237 (by decide) (fun c1 => ?_) (fun c1 => ?_)
    · skip
      have hsh := ite_t hsh c1
      refine lv_iconst (v := (0 : Int32)) hx hb dX7_drill_244 (by decide) ?_
      have ho := Option.some.inj hsh
      rw [← ho] at hret
      exact hret _ _ _ _ dX7_drill_245 hP hD hS
    · skip
      have hsh := ite_f hsh c1
      refine lv_iconst (v := (2 : Int32)) hx hb dX7_drill_240 (by decide) ?_
      refine lv_goto (tgt := 245) hx hb dX7_drill_241 (by decide) ?_
      have ho := Option.some.inj hsh
      rw [← ho] at hret
      exact hret _ _ _ _ dX7_drill_245 hP hD hS
  have Jj_174 : ∀ (v_thrown_j_174 : Int32) (w_pipesIn_j_174 : Nat → Int32) (w_pipe_j_174 : Nat → Int32) (w_met_j_174 : Nat → Int32) (H : Heap) (locs : List Loc), va_P D vwCl (wdX7_drill cI cJ cZ q_this q_tape q_prior q_pipesIn q_pipe q_met q_chance q_rock q_people q_bad q_well q_ends q_runs q_way q_words q_told q_weight q_days q_depth q_bestDepth q_hopes q_planOf q_planDepth v_tapeSize v_thrown_j_174 v_salt v_dry v_rest v_fault v_faultPlace v_rocks v_villages v_day v_at v_allPipes v_end v_next v_kind v_which v_place v_isPlan v_planMany v_planPipes v_planDays w_pipesIn_j_174 w_pipe_j_174 w_met_j_174 w_rock w_bad w_well) H → va_D A (wdX7_drill cI cJ cZ q_this q_tape q_prior q_pipesIn q_pipe q_met q_chance q_rock q_people q_bad q_well q_ends q_runs q_way q_words q_told q_weight q_days q_depth q_bestDepth q_hopes q_planOf q_planDepth v_tapeSize v_thrown_j_174 v_salt v_dry v_rest v_fault v_faultPlace v_rocks v_villages v_day v_at v_allPipes v_end v_next v_kind v_which v_place v_isPlan v_planMany v_planPipes v_planDays w_pipesIn_j_174 w_pipe_j_174 w_met_j_174 w_rock w_bad w_well) → va_S A s.heap H locs → ∀ ls : Array Slot, lv_has ls 6 [(0, .ref q_this), (1, .int a1), (2, .int a2), (3, .int a3)] → shX7_drill_j_174 a1 a2 a3 v_salt v_rest v_day v_at v_allPipes w_bad w_well v_thrown_j_174 w_pipesIn_j_174 w_pipe_j_174 w_met_j_174 = some o → W p l e rmX7_drill s m args below meth c H locs 0 0 Q (F0 m 174 ls []) := by
    intro v_thrown_j_174 w_pipesIn_j_174 w_pipe_j_174 w_met_j_174 H locs hP hD hS ls hl hsh
    unfold shX7_drill_j_174 at hsh
    refine lv_aload_n hx hb dX7_drill_174 rfl (lv_at hl 0 rfl) ?_
    refine lv_dup hx hb dX7_drill_175 rfl ?_
    refine kget (ci := 7) S hK hP rfl inX7_drill_X7 0 rfl 24 (by decide) lkX7_drill_152 rfl dX7_drill_176 ?_
    refine lv_iload_n hx hb dX7_drill_179 rfl (lv_at hl 1 rfl) ?_
    refine lv_iadd hx hb dX7_drill_180 ?_
    refine kput (ci := 7) S hK hP hD hS rfl inX7_drill_X7 tyX7_ok nmX7 0 rfl 24 (by decide) lkX7_drill_152 rfl rfl rfl (Nat.le_of_ble_eq_true rfl) (ws' := (wdX7_drill cI cJ cZ q_this q_tape q_prior q_pipesIn q_pipe q_met q_chance q_rock q_people q_bad q_well q_ends q_runs q_way q_words q_told q_weight q_days q_depth q_bestDepth q_hopes q_planOf q_planDepth v_tapeSize v_thrown_j_174 v_salt v_dry v_rest v_fault v_faultPlace v_rocks v_villages v_day v_at (v_allPipes + a1) v_end v_next v_kind v_which v_place v_isPlan v_planMany v_planPipes v_planDays w_pipesIn_j_174 w_pipe_j_174 w_met_j_174 w_rock w_bad w_well)) rfl dX7_drill_181 (fun H locs hP hD hS => ?_)
    refine lv_aload_n hx hb dX7_drill_184 rfl (lv_at hl 0 rfl) ?_
    refine lv_dup hx hb dX7_drill_185 rfl ?_
    refine kget (ci := 7) S hK hP rfl inX7_drill_X7 0 rfl 22 (by decide) lkX7_drill_149 rfl dX7_drill_186 ?_
    refine lv_iload_n hx hb dX7_drill_189 rfl (lv_at hl 1 rfl) ?_
    refine lv_aload_n hx hb dX7_drill_190 rfl (lv_at hl 0 rfl) ?_
    refine kget (ci := 7) S hK hP rfl inX7_drill_X7 0 rfl 5 (by decide) lkX7_drill_134 rfl dX7_drill_191 ?_
    refine lv_iadd hx hb dX7_drill_194 ?_
    refine lv_iadd hx hb dX7_drill_195 ?_
    refine kput (ci := 7) S hK hP hD hS rfl inX7_drill_X7 tyX7_ok nmX7 0 rfl 22 (by decide) lkX7_drill_149 rfl rfl rfl (Nat.le_of_ble_eq_true rfl) (ws' := (wdX7_drill cI cJ cZ q_this q_tape q_prior q_pipesIn q_pipe q_met q_chance q_rock q_people q_bad q_well q_ends q_runs q_way q_words q_told q_weight q_days q_depth q_bestDepth q_hopes q_planOf q_planDepth v_tapeSize v_thrown_j_174 v_salt v_dry v_rest v_fault v_faultPlace v_rocks v_villages (v_day + (a1 + v_rest)) v_at (v_allPipes + a1) v_end v_next v_kind v_which v_place v_isPlan v_planMany v_planPipes v_planDays w_pipesIn_j_174 w_pipe_j_174 w_met_j_174 w_rock w_bad w_well)) rfl dX7_drill_196 (fun H locs hP hD hS => ?_)
    refine lv_iload_n hx hb dX7_drill_199 rfl (lv_at hl 2 rfl) ?_
    refine lv_if_eq (tgt := 223) hx hb dX7_drill_200 (by decide) (fun c1 => ?_) (fun c1 => ?_)
    · skip
      have hsh := ite_t hsh c1
      exact Jj_223 v_thrown_j_174 (v_day + (a1 + v_rest)) (v_allPipes + a1) w_pipesIn_j_174 w_pipe_j_174 w_met_j_174 H locs hP hD hS ls (lv_sub hl [0, 2] rfl) hsh
    · skip
      have hsh := ite_f hsh c1
      refine lv_iload_n hx hb dX7_drill_203 rfl (lv_at hl 3 rfl) ?_
      refine lv_aload_n hx hb dX7_drill_204 rfl (lv_at hl 0 rfl) ?_
      refine kget (ci := 7) S hK hP rfl inX7_drill_X7 0 rfl 3 (by decide) lkX7_drill_13 rfl dX7_drill_205 ?_
      refine lv_icmp_gt (tgt := 223) hx hb dX7_drill_208 (by decide) (fun c1 => ?_) (fun c1 => ?_)
      · skip
        have hsh := ite_t hsh c1
        exact Jj_223 v_thrown_j_174 (v_day + (a1 + v_rest)) (v_allPipes + a1) w_pipesIn_j_174 w_pipe_j_174 w_met_j_174 H locs hP hD hS ls (lv_sub hl [0, 2] rfl) hsh
      · skip
        have hsh := ite_f hsh c1
        refine lv_aload_n hx hb dX7_drill_211 rfl (lv_at hl 0 rfl) ?_
        refine kget (ci := 7) S hK hP rfl inX7_drill_X7 0 rfl 18 (by decide) lkX7_drill_48 rfl dX7_drill_212 ?_
        refine lv_aload_n hx hb dX7_drill_215 rfl (lv_at hl 0 rfl) ?_
        refine kget (ci := 7) S hK hP rfl inX7_drill_X7 0 rfl 23 (by decide) lkX7_drill_146 rfl dX7_drill_216 ?_
        refine lv_iload_n hx hb dX7_drill_219 rfl (lv_at hl 1 rfl) ?_
        obtain ⟨_, hg, hsh⟩ := bd hsh
        refine kias S hK hP hD hS 6 0 rfl rfl (gd_in hg) (ws' := (wdX7_drill cI cJ cZ q_this q_tape q_prior q_pipesIn q_pipe q_met q_chance q_rock q_people q_bad q_well q_ends q_runs q_way q_words q_told q_weight q_days q_depth q_bestDepth q_hopes q_planOf q_planDepth v_tapeSize v_thrown_j_174 v_salt v_dry v_rest v_fault v_faultPlace v_rocks v_villages (v_day + (a1 + v_rest)) v_at (v_allPipes + a1) v_end v_next v_kind v_which v_place v_isPlan v_planMany v_planPipes v_planDays w_pipesIn_j_174 w_pipe_j_174 w_met_j_174 w_rock w_bad (upd w_well (v_at).toNatClampNeg a1))) rfl dX7_drill_220 (fun H locs hP hD hS => ?_)
        refine lv_iconst (v := (1 : Int32)) hx hb dX7_drill_221 (by decide) ?_
        have ho := Option.some.inj hsh
        rw [← ho] at hret
        exact hret _ _ _ _ dX7_drill_222 hP hD hS
  have Jj_51 : ∀ (v_thrown_j_51 : Int32) (H : Heap) (locs : List Loc), va_P D vwCl (wdX7_drill cI cJ cZ q_this q_tape q_prior q_pipesIn q_pipe q_met q_chance q_rock q_people q_bad q_well q_ends q_runs q_way q_words q_told q_weight q_days q_depth q_bestDepth q_hopes q_planOf q_planDepth v_tapeSize v_thrown_j_51 v_salt v_dry v_rest v_fault v_faultPlace v_rocks v_villages v_day v_at v_allPipes v_end v_next v_kind v_which v_place v_isPlan v_planMany v_planPipes v_planDays w_pipesIn w_pipe w_met w_rock w_bad w_well) H → va_D A (wdX7_drill cI cJ cZ q_this q_tape q_prior q_pipesIn q_pipe q_met q_chance q_rock q_people q_bad q_well q_ends q_runs q_way q_words q_told q_weight q_days q_depth q_bestDepth q_hopes q_planOf q_planDepth v_tapeSize v_thrown_j_51 v_salt v_dry v_rest v_fault v_faultPlace v_rocks v_villages v_day v_at v_allPipes v_end v_next v_kind v_which v_place v_isPlan v_planMany v_planPipes v_planDays w_pipesIn w_pipe w_met w_rock w_bad w_well) → va_S A s.heap H locs → ∀ ls : Array Slot, lv_has ls 6 [(0, .ref q_this), (1, .int a1), (2, .int a2), (3, .int a3)] → shX7_drill_j_51 a1 a2 a3 v_salt v_rest v_day v_at v_allPipes w_pipesIn w_pipe w_met w_rock w_bad w_well v_thrown_j_51 = some o → W p l e rmX7_drill s m args below meth c H locs 0 0 Q (F0 m 51 ls []) := by
    intro v_thrown_j_51 H locs hP hD hS ls hl hsh
    unfold shX7_drill_j_51 at hsh
    refine lv_aload_n hx hb dX7_drill_51 rfl (lv_at hl 0 rfl) ?_
    refine kget (ci := 7) S hK hP rfl inX7_drill_X7 0 rfl 15 (by decide) lkX7_drill_39 rfl dX7_drill_52 ?_
    refine lv_aload_n hx hb dX7_drill_55 rfl (lv_at hl 0 rfl) ?_
    refine kget (ci := 7) S hK hP rfl inX7_drill_X7 0 rfl 23 (by decide) lkX7_drill_146 rfl dX7_drill_56 ?_
    obtain ⟨_, hg, hsh⟩ := bd hsh
    refine kial S hK hP 4 0 rfl rfl (gd_in hg) dX7_drill_59 ?_
    refine lv_istore (lv' := [(4, .int (w_rock (v_at).toNatClampNeg)), (0, .ref q_this), (1, .int a1), (2, .int a2), (3, .int a3)]) hx hb dX7_drill_60 hl (by decide) rfl (fun ls hl => ?_)
    refine lv_aload_n hx hb dX7_drill_62 rfl (lv_at hl 1 rfl) ?_
    refine kget (ci := 7) S hK hP rfl inX7_drill_X7 0 rfl 10 (by decide) lkX7_drill_26 rfl dX7_drill_63 ?_
    refine lv_iload hx hb dX7_drill_66 (lv_at hl 0 rfl) ?_
    obtain ⟨_, hg, hsh⟩ := bd hsh
    refine kial S hK hP 1 0 rfl rfl (gd_in hg) dX7_drill_68 ?_
    refine lv_iload_n hx hb dX7_drill_69 rfl (lv_at hl 2 rfl) ?_
    refine lv_iadd hx hb dX7_drill_70 ?_
    refine lv_bipush (v := (8 : Int32)) hx hb dX7_drill_71 (by decide) ?_
    refine lv_icmp_gt (tgt := 93) hx hb dX7_drill_73 (by decide) (fun c1 => ?_) (fun c1 => ?_)
    · skip
      have hsh := ite_t hsh c1
      refine lv_iconst (v := (-1 : Int32)) hx hb dX7_drill_93 (by decide) ?_
      have ho := Option.some.inj hsh
      rw [← ho] at hret
      exact hret _ _ _ _ dX7_drill_94 hP hD hS
    · skip
      have hsh := ite_f hsh c1
      refine lv_aload_n hx hb dX7_drill_76 rfl (lv_at hl 1 rfl) ?_
      refine kget (ci := 7) S hK hP rfl inX7_drill_X7 0 rfl 22 (by decide) lkX7_drill_149 rfl dX7_drill_77 ?_
      refine lv_iload_n hx hb dX7_drill_80 rfl (lv_at hl 2 rfl) ?_
      refine lv_iadd hx hb dX7_drill_81 ?_
      refine lv_aload_n hx hb dX7_drill_82 rfl (lv_at hl 1 rfl) ?_
      refine kget (ci := 7) S hK hP rfl inX7_drill_X7 0 rfl 5 (by decide) lkX7_drill_134 rfl dX7_drill_83 ?_
      refine lv_iadd hx hb dX7_drill_86 ?_
      refine lv_sipush (v := (9999 : Int32)) hx hb dX7_drill_87 (by decide) ?_
      refine lv_icmp_le (tgt := 95) hx hb dX7_drill_90 (by decide) (fun c1 => ?_) (fun c1 => ?_)
      · skip
        have hsh := ite_t hsh c1
        refine lv_iconst (v := (1 : Int32)) hx hb dX7_drill_95 (by decide) ?_
        refine lv_istore (lv' := [(5, .int (1 : Int32)), (4, .int (w_rock (v_at).toNatClampNeg)), (0, .ref q_this), (1, .int a1), (2, .int a2), (3, .int a3)]) hx hb dX7_drill_96 hl (by decide) rfl (fun ls hl => ?_)
        obtain ⟨r_98, hl_98, hk_98⟩ := bd hsh
        obtain ⟨n_98, hn_98⟩ := lp_iff.mp hl_98
        have L_98 : ∀ (n : Nat) (x5_98 : Int32) (w_pipesIn_98 : Nat → Int32) (w_pipe_98 : Nat → Int32) (w_met_98 : Nat → Int32) (H : Heap) (locs : List Loc), va_P D vwCl (wdX7_drill cI cJ cZ q_this q_tape q_prior q_pipesIn q_pipe q_met q_chance q_rock q_people q_bad q_well q_ends q_runs q_way q_words q_told q_weight q_days q_depth q_bestDepth q_hopes q_planOf q_planDepth v_tapeSize v_thrown_j_51 v_salt v_dry v_rest v_fault v_faultPlace v_rocks v_villages v_day v_at v_allPipes v_end v_next v_kind v_which v_place v_isPlan v_planMany v_planPipes v_planDays w_pipesIn_98 w_pipe_98 w_met_98 w_rock w_bad w_well) H → va_D A (wdX7_drill cI cJ cZ q_this q_tape q_prior q_pipesIn q_pipe q_met q_chance q_rock q_people q_bad q_well q_ends q_runs q_way q_words q_told q_weight q_days q_depth q_bestDepth q_hopes q_planOf q_planDepth v_tapeSize v_thrown_j_51 v_salt v_dry v_rest v_fault v_faultPlace v_rocks v_villages v_day v_at v_allPipes v_end v_next v_kind v_which v_place v_isPlan v_planMany v_planPipes v_planDays w_pipesIn_98 w_pipe_98 w_met_98 w_rock w_bad w_well) → va_S A s.heap H locs → ∀ ls : Array Slot, lv_has ls 6 [(0, .ref q_this), (1, .int a1), (2, .int a2), (3, .int a3), (4, .int (w_rock (v_at).toNatClampNeg)), (5, .int x5_98)] → it (fun s : Int32 × (Nat → Int32) × (Nat → Int32) × (Nat → Int32) => shX7_drill_L98 a1 a2 v_at w_rock s.1 s.2.1 s.2.2.1 s.2.2.2) n (x5_98, w_pipesIn_98, w_pipe_98, w_met_98) = some r_98 → W p l e rmX7_drill s m args below meth c H locs 0 0 Q (F0 m 98 ls []) := by
          intro n
          induction n with
          | zero => exact fun _ _ _ _ _ _ _ _ _ _ _ hi => it_0 hi
          | succ n ih_98 =>
            intro x5_98 w_pipesIn_98 w_pipe_98 w_met_98 H locs hP hD hS ls hl hi
            obtain ⟨b_98, hsh, hB1_98, hB2_98⟩ := it_b hi
            replace hsh : shX7_drill_L98 a1 a2 v_at w_rock x5_98 w_pipesIn_98 w_pipe_98 w_met_98 = some b_98 := hsh
            unfold shX7_drill_L98 at hsh
            have Jk98_156 : ∀ (s1_k98_156 : Int32) (s2_k98_156 : Int32) (w_pipe_k98_156 : Nat → Int32) (H : Heap) (locs : List Loc), va_P D vwCl (wdX7_drill cI cJ cZ q_this q_tape q_prior q_pipesIn q_pipe q_met q_chance q_rock q_people q_bad q_well q_ends q_runs q_way q_words q_told q_weight q_days q_depth q_bestDepth q_hopes q_planOf q_planDepth v_tapeSize v_thrown_j_51 v_salt v_dry v_rest v_fault v_faultPlace v_rocks v_villages v_day v_at v_allPipes v_end v_next v_kind v_which v_place v_isPlan v_planMany v_planPipes v_planDays w_pipesIn_98 w_pipe_k98_156 w_met_98 w_rock w_bad w_well) H → va_D A (wdX7_drill cI cJ cZ q_this q_tape q_prior q_pipesIn q_pipe q_met q_chance q_rock q_people q_bad q_well q_ends q_runs q_way q_words q_told q_weight q_days q_depth q_bestDepth q_hopes q_planOf q_planDepth v_tapeSize v_thrown_j_51 v_salt v_dry v_rest v_fault v_faultPlace v_rocks v_villages v_day v_at v_allPipes v_end v_next v_kind v_which v_place v_isPlan v_planMany v_planPipes v_planDays w_pipesIn_98 w_pipe_k98_156 w_met_98 w_rock w_bad w_well) → va_S A s.heap H locs → ∀ ls : Array Slot, lv_has ls 6 [(0, .ref q_this), (1, .int a1), (2, .int a2), (3, .int a3), (4, .int (w_rock (v_at).toNatClampNeg)), (5, .int x5_98)] → shX7_drill_k98_156 v_at w_rock x5_98 w_pipesIn_98 w_met_98 s1_k98_156 s2_k98_156 w_pipe_k98_156 = some b_98 → W p l e rmX7_drill s m args below meth c H locs 0 0 Q (F0 m 156 ls [.int s2_k98_156, .int s1_k98_156, .ref q_met]) := by
              intro s1_k98_156 s2_k98_156 w_pipe_k98_156 H locs hP hD hS ls hl hsh
              unfold shX7_drill_k98_156 at hsh
              obtain ⟨_, hg, hsh⟩ := bd hsh
              refine kzas S hK hP hD hS 3 2 rfl rfl (gd_in hg) (ws' := (wdX7_drill cI cJ cZ q_this q_tape q_prior q_pipesIn q_pipe q_met q_chance q_rock q_people q_bad q_well q_ends q_runs q_way q_words q_told q_weight q_days q_depth q_bestDepth q_hopes q_planOf q_planDepth v_tapeSize v_thrown_j_51 v_salt v_dry v_rest v_fault v_faultPlace v_rocks v_villages v_day v_at v_allPipes v_end v_next v_kind v_which v_place v_isPlan v_planMany v_planPipes v_planDays w_pipesIn_98 w_pipe_k98_156 (upd w_met_98 (s1_k98_156).toNatClampNeg (vp_nar .boolean s2_k98_156)) w_rock w_bad w_well)) rfl dX7_drill_156 (fun H locs hP hD hS => ?_)
              refine lv_aload_n hx hb dX7_drill_157 rfl (lv_at hl 0 rfl) ?_
              refine kget (ci := 7) S hK hP rfl inX7_drill_X7 0 rfl 10 (by decide) lkX7_drill_26 rfl dX7_drill_158 ?_
              refine lv_iload hx hb dX7_drill_161 (lv_at hl 4 rfl) ?_
              refine lv_dup2_11 hx hb dX7_drill_163 rfl rfl ?_
              obtain ⟨_, hg, hsh⟩ := bd hsh
              refine kial S hK hP 1 0 rfl rfl (gd_in hg) dX7_drill_164 ?_
              refine lv_iconst (v := (1 : Int32)) hx hb dX7_drill_165 (by decide) ?_
              refine lv_iadd hx hb dX7_drill_166 ?_
              obtain ⟨_, hg, hsh⟩ := bd hsh
              refine kias S hK hP hD hS 1 0 rfl rfl (gd_in hg) (ws' := (wdX7_drill cI cJ cZ q_this q_tape q_prior q_pipesIn q_pipe q_met q_chance q_rock q_people q_bad q_well q_ends q_runs q_way q_words q_told q_weight q_days q_depth q_bestDepth q_hopes q_planOf q_planDepth v_tapeSize v_thrown_j_51 v_salt v_dry v_rest v_fault v_faultPlace v_rocks v_villages v_day v_at v_allPipes v_end v_next v_kind v_which v_place v_isPlan v_planMany v_planPipes v_planDays (upd w_pipesIn_98 ((w_rock (v_at).toNatClampNeg)).toNatClampNeg ((w_pipesIn_98 ((w_rock (v_at).toNatClampNeg)).toNatClampNeg) + (1 : Int32))) w_pipe_k98_156 (upd w_met_98 (s1_k98_156).toNatClampNeg (vp_nar .boolean s2_k98_156)) w_rock w_bad w_well)) rfl dX7_drill_167 (fun H locs hP hD hS => ?_)
              refine lv_iinc (v := (x5_98 + (1 : Int32))) (lv' := [(5, .int (x5_98 + (1 : Int32))), (0, .ref q_this), (1, .int a1), (2, .int a2), (3, .int a3), (4, .int (w_rock (v_at).toNatClampNeg))]) hx hb dX7_drill_168 hl (k := 5) rfl (congrArg (fun z : Int32 => x5_98 + z) (by decide)) (by decide) rfl (fun ls hl => ?_)
              refine lv_goto (tgt := 98) hx hb dX7_drill_171 (by decide) ?_
              exact ih_98 (x5_98 + (1 : Int32)) (upd w_pipesIn_98 ((w_rock (v_at).toNatClampNeg)).toNatClampNeg ((w_pipesIn_98 ((w_rock (v_at).toNatClampNeg)).toNatClampNeg) + (1 : Int32))) w_pipe_k98_156 (upd w_met_98 (s1_k98_156).toNatClampNeg (vp_nar .boolean s2_k98_156)) H locs hP hD hS ls (lv_sub hl [1, 2, 3, 4, 5, 0] rfl) (hB1_98 _ hsh)
            have Jk98_155 : ∀ (s1_k98_155 : Int32) (w_pipe_k98_155 : Nat → Int32) (H : Heap) (locs : List Loc), va_P D vwCl (wdX7_drill cI cJ cZ q_this q_tape q_prior q_pipesIn q_pipe q_met q_chance q_rock q_people q_bad q_well q_ends q_runs q_way q_words q_told q_weight q_days q_depth q_bestDepth q_hopes q_planOf q_planDepth v_tapeSize v_thrown_j_51 v_salt v_dry v_rest v_fault v_faultPlace v_rocks v_villages v_day v_at v_allPipes v_end v_next v_kind v_which v_place v_isPlan v_planMany v_planPipes v_planDays w_pipesIn_98 w_pipe_k98_155 w_met_98 w_rock w_bad w_well) H → va_D A (wdX7_drill cI cJ cZ q_this q_tape q_prior q_pipesIn q_pipe q_met q_chance q_rock q_people q_bad q_well q_ends q_runs q_way q_words q_told q_weight q_days q_depth q_bestDepth q_hopes q_planOf q_planDepth v_tapeSize v_thrown_j_51 v_salt v_dry v_rest v_fault v_faultPlace v_rocks v_villages v_day v_at v_allPipes v_end v_next v_kind v_which v_place v_isPlan v_planMany v_planPipes v_planDays w_pipesIn_98 w_pipe_k98_155 w_met_98 w_rock w_bad w_well) → va_S A s.heap H locs → ∀ ls : Array Slot, lv_has ls 6 [(0, .ref q_this), (1, .int a1), (2, .int a2), (3, .int a3), (4, .int (w_rock (v_at).toNatClampNeg)), (5, .int x5_98)] → shX7_drill_k98_155 v_at w_rock x5_98 w_pipesIn_98 w_met_98 s1_k98_155 w_pipe_k98_155 = some b_98 → W p l e rmX7_drill s m args below meth c H locs 0 0 Q (F0 m 155 ls [.int s1_k98_155, .ref q_met]) := by
              intro s1_k98_155 w_pipe_k98_155 H locs hP hD hS ls hl hsh
              unfold shX7_drill_k98_155 at hsh
              refine lv_iconst (v := (0 : Int32)) hx hb dX7_drill_155 (by decide) ?_
              exact Jk98_156 s1_k98_155 (0 : Int32) w_pipe_k98_155 H locs hP hD hS ls (lv_sub hl [0, 1, 2, 3, 4, 5] rfl) hsh
            refine lv_iload hx hb dX7_drill_98 (lv_at hl 5 rfl) ?_
            refine lv_iload_n hx hb dX7_drill_100 rfl (lv_at hl 1 rfl) ?_
            refine lv_icmp_gt (tgt := 174) hx hb dX7_drill_101 (by decide) (fun c1 => ?_) (fun c1 => ?_)
            · skip
              have hsh := ite_t hsh c1
              have he := hB2_98 _ hsh
              rw [← he] at hk_98
              exact Jj_174 v_thrown_j_51 w_pipesIn_98 w_pipe_98 w_met_98 H locs hP hD hS ls (lv_sub hl [0, 1, 2, 3] rfl) hk_98
            · skip
              have hsh := ite_f hsh c1
              refine lv_aload_n hx hb dX7_drill_104 rfl (lv_at hl 0 rfl) ?_
              refine kget (ci := 7) S hK hP rfl inX7_drill_X7 0 rfl 11 (by decide) lkX7_drill_29 rfl dX7_drill_105 ?_
              refine lv_bipush (v := (8 : Int32)) hx hb dX7_drill_108 (by decide) ?_
              refine lv_iload hx hb dX7_drill_110 (lv_at hl 4 rfl) ?_
              refine lv_imul hx hb dX7_drill_112 ?_
              refine lv_aload_n hx hb dX7_drill_113 rfl (lv_at hl 0 rfl) ?_
              refine kget (ci := 7) S hK hP rfl inX7_drill_X7 0 rfl 10 (by decide) lkX7_drill_26 rfl dX7_drill_114 ?_
              refine lv_iload hx hb dX7_drill_117 (lv_at hl 4 rfl) ?_
              obtain ⟨_, hg, hsh⟩ := bd hsh
              refine kial S hK hP 1 0 rfl rfl (gd_in hg) dX7_drill_119 ?_
              refine lv_iadd hx hb dX7_drill_120 ?_
              refine lv_iload hx hb dX7_drill_121 (lv_at hl 5 rfl) ?_
              obtain ⟨_, hg, hsh⟩ := bd hsh
              refine kias S hK hP hD hS 2 0 rfl rfl (gd_in hg) (ws' := (wdX7_drill cI cJ cZ q_this q_tape q_prior q_pipesIn q_pipe q_met q_chance q_rock q_people q_bad q_well q_ends q_runs q_way q_words q_told q_weight q_days q_depth q_bestDepth q_hopes q_planOf q_planDepth v_tapeSize v_thrown_j_51 v_salt v_dry v_rest v_fault v_faultPlace v_rocks v_villages v_day v_at v_allPipes v_end v_next v_kind v_which v_place v_isPlan v_planMany v_planPipes v_planDays w_pipesIn_98 (upd w_pipe_98 ((((8 : Int32) * (w_rock (v_at).toNatClampNeg)) + (w_pipesIn_98 ((w_rock (v_at).toNatClampNeg)).toNatClampNeg))).toNatClampNeg x5_98) w_met_98 w_rock w_bad w_well)) rfl dX7_drill_123 (fun H locs hP hD hS => ?_)
              refine lv_aload_n hx hb dX7_drill_124 rfl (lv_at hl 0 rfl) ?_
              refine kget (ci := 7) S hK hP rfl inX7_drill_X7 0 rfl 12 (by decide) lkX7_drill_32 rfl dX7_drill_125 ?_
              refine lv_bipush (v := (8 : Int32)) hx hb dX7_drill_128 (by decide) ?_
              refine lv_iload hx hb dX7_drill_130 (lv_at hl 4 rfl) ?_
              refine lv_imul hx hb dX7_drill_132 ?_
              refine lv_aload_n hx hb dX7_drill_133 rfl (lv_at hl 0 rfl) ?_
              refine kget (ci := 7) S hK hP rfl inX7_drill_X7 0 rfl 10 (by decide) lkX7_drill_26 rfl dX7_drill_134 ?_
              refine lv_iload hx hb dX7_drill_137 (lv_at hl 4 rfl) ?_
              obtain ⟨_, hg, hsh⟩ := bd hsh
              refine kial S hK hP 1 0 rfl rfl (gd_in hg) dX7_drill_139 ?_
              refine lv_iadd hx hb dX7_drill_140 ?_
              refine lv_iload_n hx hb dX7_drill_141 rfl (lv_at hl 2 rfl) ?_
              refine lv_if_eq (tgt := 155) hx hb dX7_drill_142 (by decide) (fun c1 => ?_) (fun c1 => ?_)
              · skip
                have hsh := ite_t hsh c1
                exact Jk98_155 (((8 : Int32) * (w_rock (v_at).toNatClampNeg)) + (w_pipesIn_98 ((w_rock (v_at).toNatClampNeg)).toNatClampNeg)) (upd w_pipe_98 ((((8 : Int32) * (w_rock (v_at).toNatClampNeg)) + (w_pipesIn_98 ((w_rock (v_at).toNatClampNeg)).toNatClampNeg))).toNatClampNeg x5_98) H locs hP hD hS ls (lv_sub hl [0, 1, 2, 3, 4, 5] rfl) hsh
              · skip
                have hsh := ite_f hsh c1
                refine lv_iload hx hb dX7_drill_145 (lv_at hl 5 rfl) ?_
                refine lv_iload_n hx hb dX7_drill_147 rfl (lv_at hl 1 rfl) ?_
                refine lv_icmp_ne (tgt := 155) hx hb dX7_drill_148 (by decide) (fun c1 => ?_) (fun c1 => ?_)
                · skip
                  have hsh := ite_t hsh c1
                  exact Jk98_155 (((8 : Int32) * (w_rock (v_at).toNatClampNeg)) + (w_pipesIn_98 ((w_rock (v_at).toNatClampNeg)).toNatClampNeg)) (upd w_pipe_98 ((((8 : Int32) * (w_rock (v_at).toNatClampNeg)) + (w_pipesIn_98 ((w_rock (v_at).toNatClampNeg)).toNatClampNeg))).toNatClampNeg x5_98) H locs hP hD hS ls (lv_sub hl [0, 1, 2, 3, 4, 5] rfl) hsh
                · skip
                  have hsh := ite_f hsh (fun h => h c1)
                  refine lv_iconst (v := (1 : Int32)) hx hb dX7_drill_151 (by decide) ?_
                  refine lv_goto (tgt := 156) hx hb dX7_drill_152 (by decide) ?_
                  exact Jk98_156 (((8 : Int32) * (w_rock (v_at).toNatClampNeg)) + (w_pipesIn_98 ((w_rock (v_at).toNatClampNeg)).toNatClampNeg)) (1 : Int32) (upd w_pipe_98 ((((8 : Int32) * (w_rock (v_at).toNatClampNeg)) + (w_pipesIn_98 ((w_rock (v_at).toNatClampNeg)).toNatClampNeg))).toNatClampNeg x5_98) H locs hP hD hS ls (lv_sub hl [0, 1, 2, 3, 4, 5] rfl) hsh
        exact L_98 n_98 (1 : Int32) w_pipesIn w_pipe w_met H locs hP hD hS ls (lv_sub hl [2, 3, 4, 5, 1, 0] rfl) hn_98
      · skip
        have hsh := ite_f hsh c1
        refine lv_iconst (v := (-1 : Int32)) hx hb dX7_drill_93 (by decide) ?_
        have ho := Option.some.inj hsh
        rw [← ho] at hret
        exact hret _ _ _ _ dX7_drill_94 hP hD hS
  refine lv_aload_n hx hb dX7_drill_0 rfl (lv_at hl 0 rfl) ?_
  refine lv_iconst (v := (0 : Int32)) hx hb dX7_drill_1 (by decide) ?_
  refine kput (ci := 7) S hK hP hD hS rfl inX7_drill_X7 tyX7_ok nmX7 0 rfl 2 (by decide) lkX7_drill_88 rfl rfl rfl (Nat.le_of_ble_eq_true rfl) (ws' := (wdX7_drill cI cJ cZ q_this q_tape q_prior q_pipesIn q_pipe q_met q_chance q_rock q_people q_bad q_well q_ends q_runs q_way q_words q_told q_weight q_days q_depth q_bestDepth q_hopes q_planOf q_planDepth v_tapeSize (0 : Int32) v_salt v_dry v_rest v_fault v_faultPlace v_rocks v_villages v_day v_at v_allPipes v_end v_next v_kind v_which v_place v_isPlan v_planMany v_planPipes v_planDays w_pipesIn w_pipe w_met w_rock w_bad w_well)) rfl dX7_drill_2 (fun H locs hP hD hS => ?_)
  refine lv_aload_n hx hb dX7_drill_5 rfl (lv_at hl 0 rfl) ?_
  refine kget (ci := 7) S hK hP rfl inX7_drill_X7 0 rfl 23 (by decide) lkX7_drill_146 rfl dX7_drill_6 ?_
  refine lv_if_eq (tgt := 49) hx hb dX7_drill_9 (by decide) (fun c1 => ?_) (fun c1 => ?_)
  · skip
    have hsh := ite_t hsh c1
    refine lv_iconst (v := (-1 : Int32)) hx hb dX7_drill_49 (by decide) ?_
    have ho := Option.some.inj hsh
    rw [← ho] at hret
    exact hret _ _ _ _ dX7_drill_50 hP hD hS
  · skip
    have hsh := ite_f hsh c1
    refine lv_aload_n hx hb dX7_drill_12 rfl (lv_at hl 0 rfl) ?_
    refine kget (ci := 7) S hK hP rfl inX7_drill_X7 0 rfl 18 (by decide) lkX7_drill_48 rfl dX7_drill_13 ?_
    refine lv_aload_n hx hb dX7_drill_16 rfl (lv_at hl 0 rfl) ?_
    refine kget (ci := 7) S hK hP rfl inX7_drill_X7 0 rfl 23 (by decide) lkX7_drill_146 rfl dX7_drill_17 ?_
    obtain ⟨_, hg, hsh⟩ := bd hsh
    refine kial S hK hP 6 0 rfl rfl (gd_in hg) dX7_drill_20 ?_
    refine lv_if_gt (tgt := 49) hx hb dX7_drill_21 (by decide) (fun c1 => ?_) (fun c1 => ?_)
    · skip
      have hsh := ite_t hsh c1
      refine lv_iconst (v := (-1 : Int32)) hx hb dX7_drill_49 (by decide) ?_
      have ho := Option.some.inj hsh
      rw [← ho] at hret
      exact hret _ _ _ _ dX7_drill_50 hP hD hS
    · skip
      have hsh := ite_f hsh c1
      refine lv_iload_n hx hb dX7_drill_24 rfl (lv_at hl 1 rfl) ?_
      refine lv_iconst (v := (1 : Int32)) hx hb dX7_drill_25 (by decide) ?_
      refine lv_icmp_lt (tgt := 49) hx hb dX7_drill_26 (by decide) (fun c1 => ?_) (fun c1 => ?_)
      · skip
        have hsh := ite_t hsh c1
        refine lv_iconst (v := (-1 : Int32)) hx hb dX7_drill_49 (by decide) ?_
        have ho := Option.some.inj hsh
        rw [← ho] at hret
        exact hret _ _ _ _ dX7_drill_50 hP hD hS
      · skip
        have hsh := ite_f hsh c1
        refine lv_iload_n hx hb dX7_drill_29 rfl (lv_at hl 1 rfl) ?_
        refine lv_iconst (v := (4 : Int32)) hx hb dX7_drill_30 (by decide) ?_
        refine lv_icmp_gt (tgt := 49) hx hb dX7_drill_31 (by decide) (fun c1 => ?_) (fun c1 => ?_)
        · skip
          have hsh := ite_t hsh c1
          refine lv_iconst (v := (-1 : Int32)) hx hb dX7_drill_49 (by decide) ?_
          have ho := Option.some.inj hsh
          rw [← ho] at hret
          exact hret _ _ _ _ dX7_drill_50 hP hD hS
        · skip
          have hsh := ite_f hsh c1
          refine lv_iload_n hx hb dX7_drill_34 rfl (lv_at hl 2 rfl) ?_
          refine lv_if_eq (tgt := 51) hx hb dX7_drill_35 (by decide) (fun c1 => ?_) (fun c1 => ?_)
          · skip
            have hsh := ite_t hsh c1
            exact Jj_51 (0 : Int32) H locs hP hD hS ls (lv_sub hl [0, 1, 2, 3] rfl) hsh
          · skip
            have hsh := ite_f hsh c1
            refine lv_iload_n hx hb dX7_drill_38 rfl (lv_at hl 3 rfl) ?_
            refine lv_if_lt (tgt := 49) hx hb dX7_drill_39 (by decide) (fun c1 => ?_) (fun c1 => ?_)
            · skip
              have hsh := ite_t hsh c1
              refine lv_iconst (v := (-1 : Int32)) hx hb dX7_drill_49 (by decide) ?_
              have ho := Option.some.inj hsh
              rw [← ho] at hret
              exact hret _ _ _ _ dX7_drill_50 hP hD hS
            · skip
              have hsh := ite_f hsh c1
              refine lv_iload_n hx hb dX7_drill_42 rfl (lv_at hl 3 rfl) ?_
              refine lv_sipush (v := (999 : Int32)) hx hb dX7_drill_43 (by decide) ?_
              refine lv_icmp_le (tgt := 51) hx hb dX7_drill_46 (by decide) (fun c1 => ?_) (fun c1 => ?_)
              · skip
                have hsh := ite_t hsh c1
                exact Jj_51 (0 : Int32) H locs hP hD hS ls (lv_sub hl [0, 1, 2, 3] rfl) hsh
              · skip
                have hsh := ite_f hsh c1
                refine lv_iconst (v := (-1 : Int32)) hx hb dX7_drill_49 (by decide) ?_
                have ho := Option.some.inj hsh
                rw [← ho] at hret
                exact hret _ _ _ _ dX7_drill_50 hP hD hS

/-! DryWellsModel.weights -/
noncomputable def shX7_weights_j_127 (x2_j_127 : Int64) (w_weight_j_127 : Nat → Int64) : Option (Int64 × (Nat → Int64)) :=
  some (x2_j_127, w_weight_j_127)
noncomputable def shX7_weights_k5_111 (x2_5 : Int64) (x4_5 : Int32) (w_weight_k5_111 : Nat → Int64) : Option ((Int64 × Int32 × (Nat → Int64)) ⊕ ((Int64 × (Nat → Int64)))) :=
  ((gd x4_5 3).bind fun _ => some (Sum.inl ((x2_5 + (w_weight_k5_111 (x4_5).toNatClampNeg)), (x4_5 + (1 : Int32)), w_weight_k5_111)))
noncomputable def shX7_weights_k33_103 (x5_33 : Int32) (w_weight_33 : Nat → Int64) (s1_k33_103 : Int32) (s2_k33_103 : Int64) (s3_k33_103 : Int64) : Option ((Int32 × (Nat → Int64)) ⊕ (((Nat → Int64)))) :=
  ((gd s1_k33_103 3).bind fun _ => some (Sum.inl ((x5_33 + (1 : Int32)), (vp_updL w_weight_33 (s1_k33_103).toNatClampNeg (s2_k33_103 * s3_k33_103)))))
noncomputable def shX7_weights_L33 (a1 : Int32) (w_pipesIn : Nat → Int32) (w_pipe : Nat → Int32) (w_met : Nat → Int32) (w_chance : Nat → Int32) (x4_5 : Int32) (x5_33 : Int32) (w_weight_33 : Nat → Int64) : Option ((Int32 × (Nat → Int64)) ⊕ (((Nat → Int64)))) :=
  ((gd a1 4).bind fun _ => (if (w_pipesIn (a1).toNatClampNeg) ≤ x5_33 then some (Sum.inr w_weight_33) else ((gd (((8 : Int32) * a1) + x5_33) 32).bind fun _ => ((gd (((5 : Int32) * x4_5) + (w_pipe ((((8 : Int32) * a1) + x5_33)).toNatClampNeg)) 15).bind fun _ => ((gd x4_5 3).bind fun _ => ((gd (((8 : Int32) * a1) + x5_33) 32).bind fun _ => (if (w_met ((((8 : Int32) * a1) + x5_33)).toNatClampNeg) = 0 then (shX7_weights_k33_103 x5_33 w_weight_33 x4_5 (w_weight_33 (x4_5).toNatClampNeg) (((16 : Int32) - (w_chance ((((5 : Int32) * x4_5) + (w_pipe ((((8 : Int32) * a1) + x5_33)).toNatClampNeg))).toNatClampNeg))).toInt64) else (shX7_weights_k33_103 x5_33 w_weight_33 x4_5 (w_weight_33 (x4_5).toNatClampNeg) ((w_chance ((((5 : Int32) * x4_5) + (w_pipe ((((8 : Int32) * a1) + x5_33)).toNatClampNeg))).toNatClampNeg)).toInt64))))))))
noncomputable def shX7_weights_L5 (a1 : Int32) (w_prior : Nat → Int32) (w_pipesIn : Nat → Int32) (w_pipe : Nat → Int32) (w_met : Nat → Int32) (w_chance : Nat → Int32) (x2_5 : Int64) (x4_5 : Int32) (w_weight_5 : Nat → Int64) : Option ((Int64 × Int32 × (Nat → Int64)) ⊕ ((Int64 × (Nat → Int64)))) :=
  (if (3 : Int32) ≤ x4_5 then some (Sum.inr (x2_5, w_weight_5)) else ((gd (((3 : Int32) * a1) + x4_5) 12).bind fun _ => ((gd x4_5 3).bind fun _ => ((lp (fun s : Int32 × (Nat → Int64) => shX7_weights_L33 a1 w_pipesIn w_pipe w_met w_chance x4_5 s.1 s.2) ((0 : Int32), (vp_updL w_weight_5 (x4_5).toNatClampNeg ((w_prior ((((3 : Int32) * a1) + x4_5)).toNatClampNeg)).toInt64))).bind (fun p : (Nat → Int64) => shX7_weights_k5_111 x2_5 x4_5 p)))))
noncomputable def shX7_weights (a1 : Int32) (w_prior : Nat → Int32) (w_pipesIn : Nat → Int32) (w_pipe : Nat → Int32) (w_met : Nat → Int32) (w_chance : Nat → Int32) (w_weight : Nat → Int64) : Option (Int64 × (Nat → Int64)) :=
  ((lp (fun s : Int64 × Int32 × (Nat → Int64) => shX7_weights_L5 a1 w_prior w_pipesIn w_pipe w_met w_chance s.1 s.2.1 s.2.2) ((0 : Int64), (0 : Int32), w_weight)).bind (fun p : Int64 × (Nat → Int64) => shX7_weights_j_127 p.1 p.2))
def wdX7_weights (cI cJ cZ : ClassId) (q_this q_tape q_prior q_pipesIn q_pipe q_met q_chance q_rock q_people q_bad q_well q_ends q_runs q_way q_words q_told q_weight q_days q_depth q_bestDepth q_hopes q_planOf q_planDepth : Nat) (v_tapeSize : Int32) (v_thrown : Int32) (v_salt : Int32) (v_dry : Int32) (v_rest : Int32) (v_fault : Int32) (v_faultPlace : Int32) (v_rocks : Int32) (v_villages : Int32) (v_day : Int32) (v_at : Int32) (v_allPipes : Int32) (v_end : Int32) (v_next : Int32) (v_kind : Int32) (v_which : Int32) (v_place : Int32) (v_isPlan : Int32) (v_planMany : Int32) (v_planPipes : Int32) (v_planDays : Int32) (w_prior : Nat → Int32) (w_pipesIn : Nat → Int32) (w_pipe : Nat → Int32) (w_met : Nat → Int32) (w_chance : Nat → Int32) (w_weight : Nat → Int64) : va_W := [(q_this, .inr (7, [.ref q_tape, .int v_tapeSize, .int v_thrown, .int v_salt, .int v_dry, .int v_rest, .int v_fault, .int v_faultPlace, .int v_rocks, .ref q_prior, .ref q_pipesIn, .ref q_pipe, .ref q_met, .ref q_chance, .int v_villages, .ref q_rock, .ref q_people, .ref q_bad, .ref q_well, .ref q_ends, .ref q_runs, .ref q_way, .int v_day, .int v_at, .int v_allPipes, .ref q_words, .int v_end, .int v_next, .int v_kind, .int v_which, .int v_place, .ref q_told, .ref q_weight, .ref q_days, .ref q_depth, .ref q_bestDepth, .ref q_hopes, .int v_isPlan, .int v_planMany, .int v_planPipes, .int v_planDays, .ref q_planOf, .ref q_planDepth])), (q_prior, .inl (cI, 12, .inl w_prior)), (q_pipesIn, .inl (cI, 4, .inl w_pipesIn)), (q_pipe, .inl (cI, 32, .inl w_pipe)), (q_met, .inl (cZ, 32, .inl w_met)), (q_chance, .inl (cI, 15, .inl w_chance)), (q_weight, .inl (cJ, 3, .inr (.inl w_weight)))]
abbrev rmX7_weights : Room := { frames := 0, cells := 0, slots := 0, locals := 0 }
theorem inX7_weights_X7 : ∀ w ∈ u_ws RX7 TX7 43, w ∈ wsX7_weights := fun _ h => List.mem_cons_of_mem _ (List.mem_append_right _ h)
theorem lkX7_weights_66 : Cond.fieldLink RX7 66 (TX7 32).1 (TX7 32).2.1 (TX7 32).2.2.1 ∈ wsX7_weights := List.mem_of_getElem? (i := 1) rfl
theorem lkX7_weights_23 : Cond.fieldLink RX7 23 (TX7 9).1 (TX7 9).2.1 (TX7 9).2.2.1 ∈ wsX7_weights := List.mem_of_getElem? (i := 2) rfl
theorem lkX7_weights_26 : Cond.fieldLink RX7 26 (TX7 10).1 (TX7 10).2.1 (TX7 10).2.2.1 ∈ wsX7_weights := List.mem_of_getElem? (i := 3) rfl
theorem lkX7_weights_36 : Cond.fieldLink RX7 36 (TX7 13).1 (TX7 13).2.1 (TX7 13).2.2.1 ∈ wsX7_weights := List.mem_of_getElem? (i := 4) rfl
theorem lkX7_weights_29 : Cond.fieldLink RX7 29 (TX7 11).1 (TX7 11).2.1 (TX7 11).2.2.1 ∈ wsX7_weights := List.mem_of_getElem? (i := 5) rfl
theorem lkX7_weights_32 : Cond.fieldLink RX7 32 (TX7 12).1 (TX7 12).2.1 (TX7 12).2.2.1 ∈ wsX7_weights := List.mem_of_getElem? (i := 6) rfl
theorem hdX7_weights : yX7_weights.cls = RX7 ∧ yX7_weights.cls ≠ "java/lang/invoke/MethodHandle" ∧ yX7_weights.cls ≠ "java/lang/invoke/VarHandle" ∧ (parseMethodDescriptor yX7_weights.desc).map (fun d => d.parameters.length) = some 1 := by decide +kernel
set_option maxHeartbeats 4000000 in
set_option maxRecDepth 100000 in
theorem ctX7_weights (l : Launch) (D : va_G) (cI cJ cZ : ClassId) (q_this q_tape q_prior q_pipesIn q_pipe q_met q_chance q_rock q_people q_bad q_well q_ends q_runs q_way q_words q_told q_weight q_days q_depth q_bestDepth q_hopes q_planOf q_planDepth : Nat) (v_tapeSize : Int32) (v_thrown : Int32) (v_salt : Int32) (v_dry : Int32) (v_rest : Int32) (v_fault : Int32) (v_faultPlace : Int32) (v_rocks : Int32) (v_villages : Int32) (v_day : Int32) (v_at : Int32) (v_allPipes : Int32) (v_end : Int32) (v_next : Int32) (v_kind : Int32) (v_which : Int32) (v_place : Int32) (v_isPlan : Int32) (v_planMany : Int32) (v_planPipes : Int32) (v_planDays : Int32) (w_prior : Nat → Int32) (w_pipesIn : Nat → Int32) (w_pipe : Nat → Int32) (w_met : Nat → Int32) (w_chance : Nat → Int32) (w_weight : Nat → Int64) (a1 : Int32) (o : Int64 × (Nat → Int64)) (hsh : shX7_weights a1 w_prior w_pipesIn w_pipe w_met w_chance w_weight = some o) : CtL l yX7_weights wsX7_weights rmX7_weights D (tys3 cI cJ cZ) noE (wdX7_weights cI cJ cZ q_this q_tape q_prior q_pipesIn q_pipe q_met q_chance q_rock q_people q_bad q_well q_ends q_runs q_way q_words q_told q_weight q_days q_depth q_bestDepth q_hopes q_planOf q_planDepth v_tapeSize v_thrown v_salt v_dry v_rest v_fault v_faultPlace v_rocks v_villages v_day v_at v_allPipes v_end v_next v_kind v_which v_place v_isPlan v_planMany v_planPipes v_planDays w_prior w_pipesIn w_pipe w_met w_chance w_weight) [.ref q_this, .int a1] o.1 (wdX7_weights cI cJ cZ q_this q_tape q_prior q_pipesIn q_pipe q_met q_chance q_rock q_people q_bad q_well q_ends q_runs q_way q_words q_told q_weight q_days q_depth q_bestDepth q_hopes q_planOf q_planDepth v_tapeSize v_thrown v_salt v_dry v_rest v_fault v_faultPlace v_rocks v_villages v_day v_at v_allPipes v_end v_next v_kind v_which v_place v_isPlan v_planMany v_planPipes v_planDays w_prior w_pipesIn w_pipe w_met w_chance o.2) := by
  refine ctL plX7 rfl (Nat.le_of_ble_eq_true rfl) ?_
  intro p e s m below meth c A Q S hK hA hE hret H locs hP hD hS ls hl
  replace S : CallFix p m c cX7_weights 7 s _ wsX7_weights RX7 := S
  generalize ([.ref q_this, .int a1] : List Value).toArray = args at S hret ⊢
  obtain ⟨hx, hb, hml, hown, hts⟩ := id S
  replace hl : lv_has ls 7 [(0, .ref q_this), (1, .int a1)] := hl
  unfold shX7_weights at hsh
  have Jj_127 : ∀ (x2_j_127 : Int64) (w_weight_j_127 : Nat → Int64) (H : Heap) (locs : List Loc), va_P D vwCl (wdX7_weights cI cJ cZ q_this q_tape q_prior q_pipesIn q_pipe q_met q_chance q_rock q_people q_bad q_well q_ends q_runs q_way q_words q_told q_weight q_days q_depth q_bestDepth q_hopes q_planOf q_planDepth v_tapeSize v_thrown v_salt v_dry v_rest v_fault v_faultPlace v_rocks v_villages v_day v_at v_allPipes v_end v_next v_kind v_which v_place v_isPlan v_planMany v_planPipes v_planDays w_prior w_pipesIn w_pipe w_met w_chance w_weight_j_127) H → va_D A (wdX7_weights cI cJ cZ q_this q_tape q_prior q_pipesIn q_pipe q_met q_chance q_rock q_people q_bad q_well q_ends q_runs q_way q_words q_told q_weight q_days q_depth q_bestDepth q_hopes q_planOf q_planDepth v_tapeSize v_thrown v_salt v_dry v_rest v_fault v_faultPlace v_rocks v_villages v_day v_at v_allPipes v_end v_next v_kind v_which v_place v_isPlan v_planMany v_planPipes v_planDays w_prior w_pipesIn w_pipe w_met w_chance w_weight_j_127) → va_S A s.heap H locs → ∀ ls : Array Slot, lv_has ls 7 [(2, .long x2_j_127)] → shX7_weights_j_127 x2_j_127 w_weight_j_127 = some o → W p l e rmX7_weights s m args below meth c H locs 0 0 Q (F0 m 127 ls []) := by
    intro x2_j_127 w_weight_j_127 H locs hP hD hS ls hl hsh
    unfold shX7_weights_j_127 at hsh
    refine lv_lload_n hx hb dX7_weights_127 rfl (lv_at hl 0 rfl) ?_
    have ho := Option.some.inj hsh
    rw [← ho] at hret
    exact hret _ _ _ _ dX7_weights_128 hP hD hS
  refine lv_lconst (v := (0 : Int64)) hx hb dX7_weights_0 (by decide) ?_
  refine lv_lstore_n (lv' := [(2, .long (0 : Int64)), (0, .ref q_this), (1, .int a1)]) hx hb dX7_weights_1 rfl hl (by decide) rfl (fun ls hl => ?_)
  refine lv_iconst (v := (0 : Int32)) hx hb dX7_weights_2 (by decide) ?_
  refine lv_istore (lv' := [(4, .int (0 : Int32)), (2, .long (0 : Int64)), (0, .ref q_this), (1, .int a1)]) hx hb dX7_weights_3 hl (by decide) rfl (fun ls hl => ?_)
  obtain ⟨r_5, hl_5, hk_5⟩ := bd hsh
  obtain ⟨n_5, hn_5⟩ := lp_iff.mp hl_5
  have L_5 : ∀ (n : Nat) (x2_5 : Int64) (x4_5 : Int32) (w_weight_5 : Nat → Int64) (H : Heap) (locs : List Loc), va_P D vwCl (wdX7_weights cI cJ cZ q_this q_tape q_prior q_pipesIn q_pipe q_met q_chance q_rock q_people q_bad q_well q_ends q_runs q_way q_words q_told q_weight q_days q_depth q_bestDepth q_hopes q_planOf q_planDepth v_tapeSize v_thrown v_salt v_dry v_rest v_fault v_faultPlace v_rocks v_villages v_day v_at v_allPipes v_end v_next v_kind v_which v_place v_isPlan v_planMany v_planPipes v_planDays w_prior w_pipesIn w_pipe w_met w_chance w_weight_5) H → va_D A (wdX7_weights cI cJ cZ q_this q_tape q_prior q_pipesIn q_pipe q_met q_chance q_rock q_people q_bad q_well q_ends q_runs q_way q_words q_told q_weight q_days q_depth q_bestDepth q_hopes q_planOf q_planDepth v_tapeSize v_thrown v_salt v_dry v_rest v_fault v_faultPlace v_rocks v_villages v_day v_at v_allPipes v_end v_next v_kind v_which v_place v_isPlan v_planMany v_planPipes v_planDays w_prior w_pipesIn w_pipe w_met w_chance w_weight_5) → va_S A s.heap H locs → ∀ ls : Array Slot, lv_has ls 7 [(0, .ref q_this), (1, .int a1), (2, .long x2_5), (4, .int x4_5)] → it (fun s : Int64 × Int32 × (Nat → Int64) => shX7_weights_L5 a1 w_prior w_pipesIn w_pipe w_met w_chance s.1 s.2.1 s.2.2) n (x2_5, x4_5, w_weight_5) = some r_5 → W p l e rmX7_weights s m args below meth c H locs 0 0 Q (F0 m 5 ls []) := by
    intro n
    induction n with
    | zero => exact fun _ _ _ _ _ _ _ _ _ _ hi => it_0 hi
    | succ n ih_5 =>
      intro x2_5 x4_5 w_weight_5 H locs hP hD hS ls hl hi
      obtain ⟨b_5, hsh, hB1_5, hB2_5⟩ := it_b hi
      replace hsh : shX7_weights_L5 a1 w_prior w_pipesIn w_pipe w_met w_chance x2_5 x4_5 w_weight_5 = some b_5 := hsh
      unfold shX7_weights_L5 at hsh
      have Jk5_111 : ∀ (w_weight_k5_111 : Nat → Int64) (H : Heap) (locs : List Loc), va_P D vwCl (wdX7_weights cI cJ cZ q_this q_tape q_prior q_pipesIn q_pipe q_met q_chance q_rock q_people q_bad q_well q_ends q_runs q_way q_words q_told q_weight q_days q_depth q_bestDepth q_hopes q_planOf q_planDepth v_tapeSize v_thrown v_salt v_dry v_rest v_fault v_faultPlace v_rocks v_villages v_day v_at v_allPipes v_end v_next v_kind v_which v_place v_isPlan v_planMany v_planPipes v_planDays w_prior w_pipesIn w_pipe w_met w_chance w_weight_k5_111) H → va_D A (wdX7_weights cI cJ cZ q_this q_tape q_prior q_pipesIn q_pipe q_met q_chance q_rock q_people q_bad q_well q_ends q_runs q_way q_words q_told q_weight q_days q_depth q_bestDepth q_hopes q_planOf q_planDepth v_tapeSize v_thrown v_salt v_dry v_rest v_fault v_faultPlace v_rocks v_villages v_day v_at v_allPipes v_end v_next v_kind v_which v_place v_isPlan v_planMany v_planPipes v_planDays w_prior w_pipesIn w_pipe w_met w_chance w_weight_k5_111) → va_S A s.heap H locs → ∀ ls : Array Slot, lv_has ls 7 [(0, .ref q_this), (1, .int a1), (2, .long x2_5), (4, .int x4_5)] → shX7_weights_k5_111 x2_5 x4_5 w_weight_k5_111 = some b_5 → W p l e rmX7_weights s m args below meth c H locs 0 0 Q (F0 m 111 ls []) := by
        intro w_weight_k5_111 H locs hP hD hS ls hl hsh
        unfold shX7_weights_k5_111 at hsh
        refine lv_lload_n hx hb dX7_weights_111 rfl (lv_at hl 2 rfl) ?_
        refine lv_aload_n hx hb dX7_weights_112 rfl (lv_at hl 0 rfl) ?_
        refine kget (ci := 7) S hK hP rfl inX7_weights_X7 0 rfl 32 (by decide) lkX7_weights_66 rfl dX7_weights_113 ?_
        refine lv_iload hx hb dX7_weights_116 (lv_at hl 3 rfl) ?_
        obtain ⟨_, hg, hsh⟩ := bd hsh
        refine klal S hK hP 6 1 rfl rfl (gd_in hg) dX7_weights_118 ?_
        refine lv_ladd hx hb dX7_weights_119 ?_
        refine lv_lstore_n (lv' := [(2, .long (x2_5 + (w_weight_k5_111 (x4_5).toNatClampNeg))), (0, .ref q_this), (1, .int a1), (4, .int x4_5)]) hx hb dX7_weights_120 rfl hl (by decide) rfl (fun ls hl => ?_)
        refine lv_iinc (v := (x4_5 + (1 : Int32))) (lv' := [(4, .int (x4_5 + (1 : Int32))), (2, .long (x2_5 + (w_weight_k5_111 (x4_5).toNatClampNeg))), (0, .ref q_this), (1, .int a1)]) hx hb dX7_weights_121 hl (k := 3) rfl (congrArg (fun z : Int32 => x4_5 + z) (by decide)) (by decide) rfl (fun ls hl => ?_)
        refine lv_goto (tgt := 5) hx hb dX7_weights_124 (by decide) ?_
        exact ih_5 (x2_5 + (w_weight_k5_111 (x4_5).toNatClampNeg)) (x4_5 + (1 : Int32)) w_weight_k5_111 H locs hP hD hS ls (lv_sub hl [2, 3, 1, 0] rfl) (hB1_5 _ hsh)
      refine lv_iload hx hb dX7_weights_5 (lv_at hl 3 rfl) ?_
      refine lv_iconst (v := (3 : Int32)) hx hb dX7_weights_7 (by decide) ?_
      refine lv_icmp_ge (tgt := 127) hx hb dX7_weights_8 (by decide) (fun c1 => ?_) (fun c1 => ?_)
      · skip
        have hsh := ite_t hsh c1
        have he := hB2_5 _ hsh
        rw [← he] at hk_5
        exact Jj_127 x2_5 w_weight_5 H locs hP hD hS ls (lv_sub hl [2] rfl) hk_5
      · skip
        have hsh := ite_f hsh c1
        refine lv_aload_n hx hb dX7_weights_11 rfl (lv_at hl 0 rfl) ?_
        refine kget (ci := 7) S hK hP rfl inX7_weights_X7 0 rfl 32 (by decide) lkX7_weights_66 rfl dX7_weights_12 ?_
        refine lv_iload hx hb dX7_weights_15 (lv_at hl 3 rfl) ?_
        refine lv_aload_n hx hb dX7_weights_17 rfl (lv_at hl 0 rfl) ?_
        refine kget (ci := 7) S hK hP rfl inX7_weights_X7 0 rfl 9 (by decide) lkX7_weights_23 rfl dX7_weights_18 ?_
        refine lv_iconst (v := (3 : Int32)) hx hb dX7_weights_21 (by decide) ?_
        refine lv_iload_n hx hb dX7_weights_22 rfl (lv_at hl 1 rfl) ?_
        refine lv_imul hx hb dX7_weights_23 ?_
        refine lv_iload hx hb dX7_weights_24 (lv_at hl 3 rfl) ?_
        refine lv_iadd hx hb dX7_weights_26 ?_
        obtain ⟨_, hg, hsh⟩ := bd hsh
        refine kial S hK hP 1 0 rfl rfl (gd_in hg) dX7_weights_27 ?_
        refine lv_i2l hx hb dX7_weights_28 rfl ?_
        obtain ⟨_, hg, hsh⟩ := bd hsh
        refine klas S hK hP hD hS 6 1 rfl rfl (gd_in hg) (ws' := (wdX7_weights cI cJ cZ q_this q_tape q_prior q_pipesIn q_pipe q_met q_chance q_rock q_people q_bad q_well q_ends q_runs q_way q_words q_told q_weight q_days q_depth q_bestDepth q_hopes q_planOf q_planDepth v_tapeSize v_thrown v_salt v_dry v_rest v_fault v_faultPlace v_rocks v_villages v_day v_at v_allPipes v_end v_next v_kind v_which v_place v_isPlan v_planMany v_planPipes v_planDays w_prior w_pipesIn w_pipe w_met w_chance (vp_updL w_weight_5 (x4_5).toNatClampNeg ((w_prior ((((3 : Int32) * a1) + x4_5)).toNatClampNeg)).toInt64))) rfl dX7_weights_29 (fun H locs hP hD hS => ?_)
        refine lv_iconst (v := (0 : Int32)) hx hb dX7_weights_30 (by decide) ?_
        refine lv_istore (lv' := [(5, .int (0 : Int32)), (0, .ref q_this), (1, .int a1), (2, .long x2_5), (4, .int x4_5)]) hx hb dX7_weights_31 hl (by decide) rfl (fun ls hl => ?_)
        obtain ⟨r_33, hl_33, hk_33⟩ := bd hsh
        obtain ⟨n_33, hn_33⟩ := lp_iff.mp hl_33
        have L_33 : ∀ (n : Nat) (x5_33 : Int32) (w_weight_33 : Nat → Int64) (H : Heap) (locs : List Loc), va_P D vwCl (wdX7_weights cI cJ cZ q_this q_tape q_prior q_pipesIn q_pipe q_met q_chance q_rock q_people q_bad q_well q_ends q_runs q_way q_words q_told q_weight q_days q_depth q_bestDepth q_hopes q_planOf q_planDepth v_tapeSize v_thrown v_salt v_dry v_rest v_fault v_faultPlace v_rocks v_villages v_day v_at v_allPipes v_end v_next v_kind v_which v_place v_isPlan v_planMany v_planPipes v_planDays w_prior w_pipesIn w_pipe w_met w_chance w_weight_33) H → va_D A (wdX7_weights cI cJ cZ q_this q_tape q_prior q_pipesIn q_pipe q_met q_chance q_rock q_people q_bad q_well q_ends q_runs q_way q_words q_told q_weight q_days q_depth q_bestDepth q_hopes q_planOf q_planDepth v_tapeSize v_thrown v_salt v_dry v_rest v_fault v_faultPlace v_rocks v_villages v_day v_at v_allPipes v_end v_next v_kind v_which v_place v_isPlan v_planMany v_planPipes v_planDays w_prior w_pipesIn w_pipe w_met w_chance w_weight_33) → va_S A s.heap H locs → ∀ ls : Array Slot, lv_has ls 7 [(0, .ref q_this), (1, .int a1), (2, .long x2_5), (4, .int x4_5), (5, .int x5_33)] → it (fun s : Int32 × (Nat → Int64) => shX7_weights_L33 a1 w_pipesIn w_pipe w_met w_chance x4_5 s.1 s.2) n (x5_33, w_weight_33) = some r_33 → W p l e rmX7_weights s m args below meth c H locs 0 0 Q (F0 m 33 ls []) := by
          intro n
          induction n with
          | zero => exact fun _ _ _ _ _ _ _ _ _ hi => it_0 hi
          | succ n ih_33 =>
            intro x5_33 w_weight_33 H locs hP hD hS ls hl hi
            obtain ⟨b_33, hsh, hB1_33, hB2_33⟩ := it_b hi
            replace hsh : shX7_weights_L33 a1 w_pipesIn w_pipe w_met w_chance x4_5 x5_33 w_weight_33 = some b_33 := hsh
            unfold shX7_weights_L33 at hsh
            have Jk33_103 : ∀ (s1_k33_103 : Int32) (s2_k33_103 : Int64) (s3_k33_103 : Int64) (H : Heap) (locs : List Loc), va_P D vwCl (wdX7_weights cI cJ cZ q_this q_tape q_prior q_pipesIn q_pipe q_met q_chance q_rock q_people q_bad q_well q_ends q_runs q_way q_words q_told q_weight q_days q_depth q_bestDepth q_hopes q_planOf q_planDepth v_tapeSize v_thrown v_salt v_dry v_rest v_fault v_faultPlace v_rocks v_villages v_day v_at v_allPipes v_end v_next v_kind v_which v_place v_isPlan v_planMany v_planPipes v_planDays w_prior w_pipesIn w_pipe w_met w_chance w_weight_33) H → va_D A (wdX7_weights cI cJ cZ q_this q_tape q_prior q_pipesIn q_pipe q_met q_chance q_rock q_people q_bad q_well q_ends q_runs q_way q_words q_told q_weight q_days q_depth q_bestDepth q_hopes q_planOf q_planDepth v_tapeSize v_thrown v_salt v_dry v_rest v_fault v_faultPlace v_rocks v_villages v_day v_at v_allPipes v_end v_next v_kind v_which v_place v_isPlan v_planMany v_planPipes v_planDays w_prior w_pipesIn w_pipe w_met w_chance w_weight_33) → va_S A s.heap H locs → ∀ ls : Array Slot, lv_has ls 7 [(0, .ref q_this), (1, .int a1), (2, .long x2_5), (4, .int x4_5), (5, .int x5_33)] → shX7_weights_k33_103 x5_33 w_weight_33 s1_k33_103 s2_k33_103 s3_k33_103 = some b_33 → W p l e rmX7_weights s m args below meth c H locs 0 0 Q (F0 m 103 ls [.long s3_k33_103, .long s2_k33_103, .int s1_k33_103, .ref q_weight]) := by
              intro s1_k33_103 s2_k33_103 s3_k33_103 H locs hP hD hS ls hl hsh
              unfold shX7_weights_k33_103 at hsh
              refine lv_lmul hx hb dX7_weights_103 ?_
              obtain ⟨_, hg, hsh⟩ := bd hsh
              refine klas S hK hP hD hS 6 1 rfl rfl (gd_in hg) (ws' := (wdX7_weights cI cJ cZ q_this q_tape q_prior q_pipesIn q_pipe q_met q_chance q_rock q_people q_bad q_well q_ends q_runs q_way q_words q_told q_weight q_days q_depth q_bestDepth q_hopes q_planOf q_planDepth v_tapeSize v_thrown v_salt v_dry v_rest v_fault v_faultPlace v_rocks v_villages v_day v_at v_allPipes v_end v_next v_kind v_which v_place v_isPlan v_planMany v_planPipes v_planDays w_prior w_pipesIn w_pipe w_met w_chance (vp_updL w_weight_33 (s1_k33_103).toNatClampNeg (s2_k33_103 * s3_k33_103)))) rfl dX7_weights_104 (fun H locs hP hD hS => ?_)
              refine lv_iinc (v := (x5_33 + (1 : Int32))) (lv' := [(5, .int (x5_33 + (1 : Int32))), (0, .ref q_this), (1, .int a1), (2, .long x2_5), (4, .int x4_5)]) hx hb dX7_weights_105 hl (k := 4) rfl (congrArg (fun z : Int32 => x5_33 + z) (by decide)) (by decide) rfl (fun ls hl => ?_)
              refine lv_goto (tgt := 33) hx hb dX7_weights_108 (by decide) ?_
              exact ih_33 (x5_33 + (1 : Int32)) (vp_updL w_weight_33 (s1_k33_103).toNatClampNeg (s2_k33_103 * s3_k33_103)) H locs hP hD hS ls (lv_sub hl [1, 2, 3, 4, 0] rfl) (hB1_33 _ hsh)
            refine lv_iload hx hb dX7_weights_33 (lv_at hl 4 rfl) ?_
            refine lv_aload_n hx hb dX7_weights_35 rfl (lv_at hl 0 rfl) ?_
            refine kget (ci := 7) S hK hP rfl inX7_weights_X7 0 rfl 10 (by decide) lkX7_weights_26 rfl dX7_weights_36 ?_
            refine lv_iload_n hx hb dX7_weights_39 rfl (lv_at hl 1 rfl) ?_
            obtain ⟨_, hg, hsh⟩ := bd hsh
            refine kial S hK hP 2 0 rfl rfl (gd_in hg) dX7_weights_40 ?_
            refine lv_icmp_ge (tgt := 111) hx hb dX7_weights_41 (by decide) (fun c1 => ?_) (fun c1 => ?_)
            · skip
              have hsh := ite_t hsh c1
              have he := hB2_33 _ hsh
              rw [← he] at hk_33
              exact Jk5_111 w_weight_33 H locs hP hD hS ls (lv_sub hl [0, 1, 2, 3] rfl) hk_33
            · skip
              have hsh := ite_f hsh c1
              refine lv_aload_n hx hb dX7_weights_44 rfl (lv_at hl 0 rfl) ?_
              refine kget (ci := 7) S hK hP rfl inX7_weights_X7 0 rfl 13 (by decide) lkX7_weights_36 rfl dX7_weights_45 ?_
              refine lv_iconst (v := (5 : Int32)) hx hb dX7_weights_48 (by decide) ?_
              refine lv_iload hx hb dX7_weights_49 (lv_at hl 3 rfl) ?_
              refine lv_imul hx hb dX7_weights_51 ?_
              refine lv_aload_n hx hb dX7_weights_52 rfl (lv_at hl 0 rfl) ?_
              refine kget (ci := 7) S hK hP rfl inX7_weights_X7 0 rfl 11 (by decide) lkX7_weights_29 rfl dX7_weights_53 ?_
              refine lv_bipush (v := (8 : Int32)) hx hb dX7_weights_56 (by decide) ?_
              refine lv_iload_n hx hb dX7_weights_58 rfl (lv_at hl 1 rfl) ?_
              refine lv_imul hx hb dX7_weights_59 ?_
              refine lv_iload hx hb dX7_weights_60 (lv_at hl 4 rfl) ?_
              refine lv_iadd hx hb dX7_weights_62 ?_
              obtain ⟨_, hg, hsh⟩ := bd hsh
              refine kial S hK hP 3 0 rfl rfl (gd_in hg) dX7_weights_63 ?_
              refine lv_iadd hx hb dX7_weights_64 ?_
              obtain ⟨_, hg, hsh⟩ := bd hsh
              refine kial S hK hP 5 0 rfl rfl (gd_in hg) dX7_weights_65 ?_
              refine lv_istore (lv' := [(6, .int (w_chance ((((5 : Int32) * x4_5) + (w_pipe ((((8 : Int32) * a1) + x5_33)).toNatClampNeg))).toNatClampNeg)), (0, .ref q_this), (1, .int a1), (2, .long x2_5), (4, .int x4_5), (5, .int x5_33)]) hx hb dX7_weights_66 hl (by decide) rfl (fun ls hl => ?_)
              refine lv_aload_n hx hb dX7_weights_68 rfl (lv_at hl 1 rfl) ?_
              refine kget (ci := 7) S hK hP rfl inX7_weights_X7 0 rfl 32 (by decide) lkX7_weights_66 rfl dX7_weights_69 ?_
              refine lv_iload hx hb dX7_weights_72 (lv_at hl 4 rfl) ?_
              refine lv_dup2_11 hx hb dX7_weights_74 rfl rfl ?_
              obtain ⟨_, hg, hsh⟩ := bd hsh
              refine klal S hK hP 6 1 rfl rfl (gd_in hg) dX7_weights_75 ?_
              refine lv_aload_n hx hb dX7_weights_76 rfl (lv_at hl 1 rfl) ?_
              refine kget (ci := 7) S hK hP rfl inX7_weights_X7 0 rfl 12 (by decide) lkX7_weights_32 rfl dX7_weights_77 ?_
              refine lv_bipush (v := (8 : Int32)) hx hb dX7_weights_80 (by decide) ?_
              refine lv_iload_n hx hb dX7_weights_82 rfl (lv_at hl 2 rfl) ?_
              refine lv_imul hx hb dX7_weights_83 ?_
              refine lv_iload hx hb dX7_weights_84 (lv_at hl 5 rfl) ?_
              refine lv_iadd hx hb dX7_weights_86 ?_
              obtain ⟨_, hg, hsh⟩ := bd hsh
              refine kzal S hK hP 4 2 rfl rfl (gd_in hg) dX7_weights_87 ?_
              refine lv_if_eq (tgt := 97) hx hb dX7_weights_88 (by decide) (fun c1 => ?_) (fun c1 => ?_)
              · skip
                have hsh := ite_t hsh c1
                refine lv_bipush (v := (16 : Int32)) hx hb dX7_weights_97 (by decide) ?_
                refine lv_iload hx hb dX7_weights_99 (lv_at hl 0 rfl) ?_
                refine lv_isub hx hb dX7_weights_101 ?_
                refine lv_i2l hx hb dX7_weights_102 rfl ?_
                exact Jk33_103 x4_5 (w_weight_33 (x4_5).toNatClampNeg) (((16 : Int32) - (w_chance ((((5 : Int32) * x4_5) + (w_pipe ((((8 : Int32) * a1) + x5_33)).toNatClampNeg))).toNatClampNeg))).toInt64 H locs hP hD hS ls (lv_sub hl [1, 2, 3, 4, 5] rfl) hsh
              · skip
                have hsh := ite_f hsh c1
                refine lv_iload hx hb dX7_weights_91 (lv_at hl 0 rfl) ?_
                refine lv_i2l hx hb dX7_weights_93 rfl ?_
                refine lv_goto (tgt := 103) hx hb dX7_weights_94 (by decide) ?_
                exact Jk33_103 x4_5 (w_weight_33 (x4_5).toNatClampNeg) ((w_chance ((((5 : Int32) * x4_5) + (w_pipe ((((8 : Int32) * a1) + x5_33)).toNatClampNeg))).toNatClampNeg)).toInt64 H locs hP hD hS ls (lv_sub hl [1, 2, 3, 4, 5] rfl) hsh
        exact L_33 n_33 (0 : Int32) (vp_updL w_weight_5 (x4_5).toNatClampNeg ((w_prior ((((3 : Int32) * a1) + x4_5)).toNatClampNeg)).toInt64) H locs hP hD hS ls (lv_sub hl [1, 2, 3, 4, 0] rfl) hn_33
  exact L_5 n_5 (0 : Int64) (0 : Int32) w_weight H locs hP hD hS ls (lv_sub hl [2, 3, 1, 0] rfl) hn_5

/-! DryWellsModel.divisor -/
noncomputable def shX7_divisor_j_31 (x4_j_31 : Int64) : Option (Int64) :=
  some x4_j_31
noncomputable def shX7_divisor_L6 (x4_6 : Int64) (x6_6 : Int64) : Option ((Int64 × Int64) ⊕ ((Int64))) :=
  (if x6_6 = (0 : Int64) then some (Sum.inr x4_6) else ((gq x6_6).bind fun _ => some (Sum.inl (x6_6, (x4_6 - x4_6 / x6_6 * x6_6)))))
noncomputable def shX7_divisor (a0 : Int64) (a2 : Int64) : Option (Int64) :=
  ((lp (fun s : Int64 × Int64 => shX7_divisor_L6 s.1 s.2) (a0, a2)).bind (fun p : Int64 => shX7_divisor_j_31 p))
def wdX7_divisor (cI cJ cZ : ClassId)   : va_W := []
abbrev rmX7_divisor : Room := { frames := 0, cells := 0, slots := 0, locals := 0 }
theorem hdX7_divisor : yX7_divisor.cls ≠ "java/lang/invoke/MethodHandle" ∧ yX7_divisor.cls ≠ "java/lang/invoke/VarHandle" ∧ (parseMethodDescriptor yX7_divisor.desc).map (fun d => d.parameters.length) = some 2 := by decide +kernel
set_option maxHeartbeats 4000000 in
set_option maxRecDepth 100000 in
theorem ctX7_divisor (l : Launch) (D : va_G) (cI cJ cZ : ClassId)  (a0 : Int64) (a2 : Int64) (o : Int64) (hsh : shX7_divisor a0 a2 = some o) : CtL l yX7_divisor wsX7_divisor rmX7_divisor D (tys3 cI cJ cZ) noE (wdX7_divisor cI cJ cZ ) [.long a0, .long a2] o (wdX7_divisor cI cJ cZ ) := by
  refine ctL plX7 rfl (Nat.le_of_ble_eq_true rfl) ?_
  intro p e s m below meth c A Q S hK hA hE hret H locs hP hD hS ls hl
  replace S : CallFix p m c cX7_divisor 10 s _ wsX7_divisor RX7 := S
  generalize ([.long a0, .long a2] : List Value).toArray = args at S hret ⊢
  obtain ⟨hx, hb, hml, hown, hts⟩ := id S
  replace hl : lv_has ls 10 [(0, .long a0), (2, .long a2)] := hl
  unfold shX7_divisor at hsh
  have Jj_31 : ∀ (x4_j_31 : Int64) (H : Heap) (locs : List Loc), va_P D vwCl (wdX7_divisor cI cJ cZ ) H → va_D A (wdX7_divisor cI cJ cZ ) → va_S A s.heap H locs → ∀ ls : Array Slot, lv_has ls 10 [(4, .long x4_j_31)] → shX7_divisor_j_31 x4_j_31 = some o → W p l e rmX7_divisor s m args below meth c H locs 0 0 Q (F0 m 31 ls []) := by
    intro x4_j_31 H locs hP hD hS ls hl hsh
    unfold shX7_divisor_j_31 at hsh
    refine lv_lload hx hb dX7_divisor_31 (lv_at hl 0 rfl) ?_
    have ho := Option.some.inj hsh
    rw [← ho] at hret
    exact hret _ _ _ _ dX7_divisor_33 hP hD hS
  refine lv_lload_n hx hb dX7_divisor_0 rfl (lv_at hl 0 rfl) ?_
  refine lv_lstore (lv' := [(4, .long a0), (0, .long a0), (2, .long a2)]) hx hb dX7_divisor_1 hl (by decide) rfl (fun ls hl => ?_)
  refine lv_lload_n hx hb dX7_divisor_3 rfl (lv_at hl 2 rfl) ?_
  refine lv_lstore (lv' := [(6, .long a2), (4, .long a0), (0, .long a0), (2, .long a2)]) hx hb dX7_divisor_4 hl (by decide) rfl (fun ls hl => ?_)
  obtain ⟨r_6, hl_6, hk_6⟩ := bd hsh
  obtain ⟨n_6, hn_6⟩ := lp_iff.mp hl_6
  have L_6 : ∀ (n : Nat) (x4_6 : Int64) (x6_6 : Int64) (H : Heap) (locs : List Loc), va_P D vwCl (wdX7_divisor cI cJ cZ ) H → va_D A (wdX7_divisor cI cJ cZ ) → va_S A s.heap H locs → ∀ ls : Array Slot, lv_has ls 10 [(4, .long x4_6), (6, .long x6_6)] → it (fun s : Int64 × Int64 => shX7_divisor_L6 s.1 s.2) n (x4_6, x6_6) = some r_6 → W p l e rmX7_divisor s m args below meth c H locs 0 0 Q (F0 m 6 ls []) := by
    intro n
    induction n with
    | zero => exact fun _ _ _ _ _ _ _ _ _ hi => it_0 hi
    | succ n ih_6 =>
      intro x4_6 x6_6 H locs hP hD hS ls hl hi
      obtain ⟨b_6, hsh, hB1_6, hB2_6⟩ := it_b hi
      replace hsh : shX7_divisor_L6 x4_6 x6_6 = some b_6 := hsh
      unfold shX7_divisor_L6 at hsh
      refine lv_lload hx hb dX7_divisor_6 (lv_at hl 1 rfl) ?_
      refine lv_lconst (v := (0 : Int64)) hx hb dX7_divisor_8 (by decide) ?_
      refine W.lcmp hx hb dX7_divisor_9 ?_
      refine lv_if_eq (tgt := 31) hx hb dX7_divisor_10 (by decide) (fun c1 => ?_) (fun c1 => ?_)
      · have c1 := lc_eq.mp c1
        have hsh := ite_t hsh c1
        have he := hB2_6 _ hsh
        rw [← he] at hk_6
        exact Jj_31 x4_6 H locs hP hD hS ls (lv_sub hl [0] rfl) hk_6
      · have c1 := fun h => c1 (lc_eq.mpr h)
        have hsh := ite_f hsh c1
        refine lv_lload hx hb dX7_divisor_13 (lv_at hl 0 rfl) ?_
        refine lv_lload hx hb dX7_divisor_15 (lv_at hl 1 rfl) ?_
        obtain ⟨_, hg, hsh⟩ := bd hsh
        refine lv_lrem hx hb dX7_divisor_17 (gq_ne hg) ?_
        refine lv_lstore (lv' := [(8, .long (x4_6 - x4_6 / x6_6 * x6_6)), (4, .long x4_6), (6, .long x6_6)]) hx hb dX7_divisor_18 hl (by decide) rfl (fun ls hl => ?_)
        refine lv_lload hx hb dX7_divisor_20 (lv_at hl 2 rfl) ?_
        refine lv_lstore (lv' := [(4, .long x6_6), (8, .long (x4_6 - x4_6 / x6_6 * x6_6)), (6, .long x6_6)]) hx hb dX7_divisor_22 hl (by decide) rfl (fun ls hl => ?_)
        refine lv_lload hx hb dX7_divisor_24 (lv_at hl 1 rfl) ?_
        refine lv_lstore (lv' := [(6, .long (x4_6 - x4_6 / x6_6 * x6_6)), (4, .long x6_6), (8, .long (x4_6 - x4_6 / x6_6 * x6_6))]) hx hb dX7_divisor_26 hl (by decide) rfl (fun ls hl => ?_)
        refine lv_goto (tgt := 6) hx hb dX7_divisor_28 (by decide) ?_
        exact ih_6 x6_6 (x4_6 - x4_6 / x6_6 * x6_6) H locs hP hD hS ls (lv_sub hl [1, 0] rfl) (hB1_6 _ hsh)
  exact L_6 n_6 a0 a2 H locs hP hD hS ls (lv_sub hl [1, 0] rfl) hn_6

/-! DryWellsModel.likely -/
noncomputable def shX7_likely (a1 : Int32) (a2 : Int32) (a3 : Int32) (v_thrown : Int32) (v_rocks : Int32) (w_prior : Nat → Int32) (w_pipesIn : Nat → Int32) (w_pipe : Nat → Int32) (w_met : Nat → Int32) (w_chance : Nat → Int32) (w_weight : Nat → Int64) : Option (Int64 × Int32 × (Nat → Int64)) :=
  (if a1 < 0 then some ((-1 : Int64), (0 : Int32), w_weight) else (if v_rocks ≤ a1 then some ((-1 : Int64), (0 : Int32), w_weight) else (if a2 < 0 then some ((-1 : Int64), (0 : Int32), w_weight) else (if (2 : Int32) < a2 then some ((-1 : Int64), (0 : Int32), w_weight) else (if a3 < 0 then some ((-1 : Int64), (0 : Int32), w_weight) else (if a3 ≤ (1 : Int32) then ((shX7_weights a1 w_prior w_pipesIn w_pipe w_met w_chance w_weight).bind fun o_41 => (if ¬ o_41.1 = (0 : Int64) then ((gd a2 3).bind fun _ => ((shX7_divisor (o_41.2 (a2).toNatClampNeg) o_41.1).bind fun o_65 => (if ¬ a3 = 0 then ((gq o_65).bind fun _ => some ((o_41.1 / o_65), (0 : Int32), o_41.2)) else ((gd a2 3).bind fun _ => ((gq o_65).bind fun _ => some (((o_41.2 (a2).toNatClampNeg) / o_65), (0 : Int32), o_41.2)))))) else some ((-1 : Int64), (0 : Int32), o_41.2))) else some ((-1 : Int64), (0 : Int32), w_weight)))))))
def wdX7_likely (cI cJ cZ : ClassId) (q_this q_tape q_prior q_pipesIn q_pipe q_met q_chance q_rock q_people q_bad q_well q_ends q_runs q_way q_words q_told q_weight q_days q_depth q_bestDepth q_hopes q_planOf q_planDepth : Nat) (v_tapeSize : Int32) (v_thrown : Int32) (v_salt : Int32) (v_dry : Int32) (v_rest : Int32) (v_fault : Int32) (v_faultPlace : Int32) (v_rocks : Int32) (v_villages : Int32) (v_day : Int32) (v_at : Int32) (v_allPipes : Int32) (v_end : Int32) (v_next : Int32) (v_kind : Int32) (v_which : Int32) (v_place : Int32) (v_isPlan : Int32) (v_planMany : Int32) (v_planPipes : Int32) (v_planDays : Int32) (w_prior : Nat → Int32) (w_pipesIn : Nat → Int32) (w_pipe : Nat → Int32) (w_met : Nat → Int32) (w_chance : Nat → Int32) (w_weight : Nat → Int64) : va_W := [(q_this, .inr (7, [.ref q_tape, .int v_tapeSize, .int v_thrown, .int v_salt, .int v_dry, .int v_rest, .int v_fault, .int v_faultPlace, .int v_rocks, .ref q_prior, .ref q_pipesIn, .ref q_pipe, .ref q_met, .ref q_chance, .int v_villages, .ref q_rock, .ref q_people, .ref q_bad, .ref q_well, .ref q_ends, .ref q_runs, .ref q_way, .int v_day, .int v_at, .int v_allPipes, .ref q_words, .int v_end, .int v_next, .int v_kind, .int v_which, .int v_place, .ref q_told, .ref q_weight, .ref q_days, .ref q_depth, .ref q_bestDepth, .ref q_hopes, .int v_isPlan, .int v_planMany, .int v_planPipes, .int v_planDays, .ref q_planOf, .ref q_planDepth])), (q_prior, .inl (cI, 12, .inl w_prior)), (q_pipesIn, .inl (cI, 4, .inl w_pipesIn)), (q_pipe, .inl (cI, 32, .inl w_pipe)), (q_met, .inl (cZ, 32, .inl w_met)), (q_chance, .inl (cI, 15, .inl w_chance)), (q_weight, .inl (cJ, 3, .inr (.inl w_weight)))]
abbrev rmX7_likely : Room := { frames := 1, cells := 0, slots := 0, locals := 29 }
theorem inX7_likely_X7 : ∀ w ∈ u_ws RX7 TX7 43, w ∈ wsX7_likely := fun _ h => List.mem_cons_of_mem _ (List.mem_append_right _ h)
theorem lkX7_likely_88 : Cond.fieldLink RX7 88 (TX7 2).1 (TX7 2).2.1 (TX7 2).2.2.1 ∈ wsX7_likely := List.mem_of_getElem? (i := 1) rfl
theorem lkX7_likely_137 : Cond.fieldLink RX7 137 (TX7 8).1 (TX7 8).2.1 (TX7 8).2.2.1 ∈ wsX7_likely := List.mem_of_getElem? (i := 2) rfl
theorem lkX7_likely_66 : Cond.fieldLink RX7 66 (TX7 32).1 (TX7 32).2.1 (TX7 32).2.2.1 ∈ wsX7_likely := List.mem_of_getElem? (i := 4) rfl
theorem hdX7_likely : yX7_likely.cls = RX7 ∧ yX7_likely.cls ≠ "java/lang/invoke/MethodHandle" ∧ yX7_likely.cls ≠ "java/lang/invoke/VarHandle" ∧ (parseMethodDescriptor yX7_likely.desc).map (fun d => d.parameters.length) = some 3 := by decide +kernel
set_option maxHeartbeats 4000000 in
set_option maxRecDepth 100000 in
theorem ctX7_likely (l : Launch) (D : va_G) (cI cJ cZ : ClassId) (q_this q_tape q_prior q_pipesIn q_pipe q_met q_chance q_rock q_people q_bad q_well q_ends q_runs q_way q_words q_told q_weight q_days q_depth q_bestDepth q_hopes q_planOf q_planDepth : Nat) (v_tapeSize : Int32) (v_thrown : Int32) (v_salt : Int32) (v_dry : Int32) (v_rest : Int32) (v_fault : Int32) (v_faultPlace : Int32) (v_rocks : Int32) (v_villages : Int32) (v_day : Int32) (v_at : Int32) (v_allPipes : Int32) (v_end : Int32) (v_next : Int32) (v_kind : Int32) (v_which : Int32) (v_place : Int32) (v_isPlan : Int32) (v_planMany : Int32) (v_planPipes : Int32) (v_planDays : Int32) (w_prior : Nat → Int32) (w_pipesIn : Nat → Int32) (w_pipe : Nat → Int32) (w_met : Nat → Int32) (w_chance : Nat → Int32) (w_weight : Nat → Int64) (a1 : Int32) (a2 : Int32) (a3 : Int32) (o : Int64 × Int32 × (Nat → Int64)) (hsh : shX7_likely a1 a2 a3 v_thrown v_rocks w_prior w_pipesIn w_pipe w_met w_chance w_weight = some o) : CtL l yX7_likely wsX7_likely rmX7_likely D (tys3 cI cJ cZ) noE (wdX7_likely cI cJ cZ q_this q_tape q_prior q_pipesIn q_pipe q_met q_chance q_rock q_people q_bad q_well q_ends q_runs q_way q_words q_told q_weight q_days q_depth q_bestDepth q_hopes q_planOf q_planDepth v_tapeSize v_thrown v_salt v_dry v_rest v_fault v_faultPlace v_rocks v_villages v_day v_at v_allPipes v_end v_next v_kind v_which v_place v_isPlan v_planMany v_planPipes v_planDays w_prior w_pipesIn w_pipe w_met w_chance w_weight) [.ref q_this, .int a1, .int a2, .int a3] o.1 (wdX7_likely cI cJ cZ q_this q_tape q_prior q_pipesIn q_pipe q_met q_chance q_rock q_people q_bad q_well q_ends q_runs q_way q_words q_told q_weight q_days q_depth q_bestDepth q_hopes q_planOf q_planDepth v_tapeSize o.2.1 v_salt v_dry v_rest v_fault v_faultPlace v_rocks v_villages v_day v_at v_allPipes v_end v_next v_kind v_which v_place v_isPlan v_planMany v_planPipes v_planDays w_prior w_pipesIn w_pipe w_met w_chance o.2.2) := by
  refine ctL plX7 rfl (Nat.le_of_ble_eq_true rfl) ?_
  intro p e s m below meth c A Q S hK hA hE hret H locs hP hD hS ls hl
  replace S : CallFix p m c cX7_likely 8 s _ wsX7_likely RX7 := S
  generalize ([.ref q_this, .int a1, .int a2, .int a3] : List Value).toArray = args at S hret ⊢
  obtain ⟨hx, hb, hml, hown, hts⟩ := id S
  replace hl : lv_has ls 8 [(0, .ref q_this), (1, .int a1), (2, .int a2), (3, .int a3)] := hl
  unfold shX7_likely at hsh
  refine lv_aload_n hx hb dX7_likely_0 rfl (lv_at hl 0 rfl) ?_
  refine lv_iconst (v := (0 : Int32)) hx hb dX7_likely_1 (by decide) ?_
  refine kput (ci := 7) S hK hP hD hS rfl inX7_likely_X7 tyX7_ok nmX7 0 rfl 2 (by decide) lkX7_likely_88 rfl rfl rfl (Nat.le_of_ble_eq_true rfl) (ws' := (wdX7_likely cI cJ cZ q_this q_tape q_prior q_pipesIn q_pipe q_met q_chance q_rock q_people q_bad q_well q_ends q_runs q_way q_words q_told q_weight q_days q_depth q_bestDepth q_hopes q_planOf q_planDepth v_tapeSize (0 : Int32) v_salt v_dry v_rest v_fault v_faultPlace v_rocks v_villages v_day v_at v_allPipes v_end v_next v_kind v_which v_place v_isPlan v_planMany v_planPipes v_planDays w_prior w_pipesIn w_pipe w_met w_chance w_weight)) rfl dX7_likely_2 (fun H locs hP hD hS => ?_)
  refine lv_iload_n hx hb dX7_likely_5 rfl (lv_at hl 1 rfl) ?_
  refine lv_if_lt (tgt := 35) hx hb dX7_likely_6 (by decide) (fun c1 => ?_) (fun c1 => ?_)
  · skip
    have hsh := ite_t hsh c1
    refine lv_ldc2 hx hb hown (v := (-1 : Int64)) (hts _ (List.mem_of_getElem? (i := 3) rfl)) dX7_likely_35 ?_
    have ho := Option.some.inj hsh
    rw [← ho] at hret
    exact hret _ _ _ _ dX7_likely_38 hP hD hS
  · skip
    have hsh := ite_f hsh c1
    refine lv_iload_n hx hb dX7_likely_9 rfl (lv_at hl 1 rfl) ?_
    refine lv_aload_n hx hb dX7_likely_10 rfl (lv_at hl 0 rfl) ?_
    refine kget (ci := 7) S hK hP rfl inX7_likely_X7 0 rfl 8 (by decide) lkX7_likely_137 rfl dX7_likely_11 ?_
    refine lv_icmp_ge (tgt := 35) hx hb dX7_likely_14 (by decide) (fun c1 => ?_) (fun c1 => ?_)
    · skip
      have hsh := ite_t hsh c1
      refine lv_ldc2 hx hb hown (v := (-1 : Int64)) (hts _ (List.mem_of_getElem? (i := 3) rfl)) dX7_likely_35 ?_
      have ho := Option.some.inj hsh
      rw [← ho] at hret
      exact hret _ _ _ _ dX7_likely_38 hP hD hS
    · skip
      have hsh := ite_f hsh c1
      refine lv_iload_n hx hb dX7_likely_17 rfl (lv_at hl 2 rfl) ?_
      refine lv_if_lt (tgt := 35) hx hb dX7_likely_18 (by decide) (fun c1 => ?_) (fun c1 => ?_)
      · skip
        have hsh := ite_t hsh c1
        refine lv_ldc2 hx hb hown (v := (-1 : Int64)) (hts _ (List.mem_of_getElem? (i := 3) rfl)) dX7_likely_35 ?_
        have ho := Option.some.inj hsh
        rw [← ho] at hret
        exact hret _ _ _ _ dX7_likely_38 hP hD hS
      · skip
        have hsh := ite_f hsh c1
        refine lv_iload_n hx hb dX7_likely_21 rfl (lv_at hl 2 rfl) ?_
        refine lv_iconst (v := (2 : Int32)) hx hb dX7_likely_22 (by decide) ?_
        refine lv_icmp_gt (tgt := 35) hx hb dX7_likely_23 (by decide) (fun c1 => ?_) (fun c1 => ?_)
        · skip
          have hsh := ite_t hsh c1
          refine lv_ldc2 hx hb hown (v := (-1 : Int64)) (hts _ (List.mem_of_getElem? (i := 3) rfl)) dX7_likely_35 ?_
          have ho := Option.some.inj hsh
          rw [← ho] at hret
          exact hret _ _ _ _ dX7_likely_38 hP hD hS
        · skip
          have hsh := ite_f hsh c1
          refine lv_iload_n hx hb dX7_likely_26 rfl (lv_at hl 3 rfl) ?_
          refine lv_if_lt (tgt := 35) hx hb dX7_likely_27 (by decide) (fun c1 => ?_) (fun c1 => ?_)
          · skip
            have hsh := ite_t hsh c1
            refine lv_ldc2 hx hb hown (v := (-1 : Int64)) (hts _ (List.mem_of_getElem? (i := 3) rfl)) dX7_likely_35 ?_
            have ho := Option.some.inj hsh
            rw [← ho] at hret
            exact hret _ _ _ _ dX7_likely_38 hP hD hS
          · skip
            have hsh := ite_f hsh c1
            refine lv_iload_n hx hb dX7_likely_30 rfl (lv_at hl 3 rfl) ?_
            refine lv_iconst (v := (1 : Int32)) hx hb dX7_likely_31 (by decide) ?_
            refine lv_icmp_le (tgt := 39) hx hb dX7_likely_32 (by decide) (fun c1 => ?_) (fun c1 => ?_)
            · skip
              have hsh := ite_t hsh c1
              refine lv_aload_n hx hb dX7_likely_39 rfl (lv_at hl 0 rfl) ?_
              refine lv_iload_n hx hb dX7_likely_40 rfl (lv_at hl 1 rfl) ?_
              obtain ⟨o_41, he, hsh⟩ := bd hsh
              refine kVl (ci := 7) S hK hA (ctX7_weights l D cI cJ cZ q_this q_tape q_prior q_pipesIn q_pipe q_met q_chance q_rock q_people q_bad q_well q_ends q_runs q_way q_words q_told q_weight q_days q_depth q_bestDepth q_hopes q_planOf q_planDepth v_tapeSize (0 : Int32) v_salt v_dry v_rest v_fault v_faultPlace v_rocks v_villages v_day v_at v_allPipes v_end v_next v_kind v_which v_place v_isPlan v_planMany v_planPipes v_planDays w_prior w_pipesIn w_pipe w_met w_chance w_weight a1 o_41 he) noE_cl (cwV 1 hts gX7_likely_X7_weights rfl rfl rfl hdX7_weights ⟨Nat.le_of_ble_eq_true rfl, Nat.le_of_ble_eq_true rfl⟩) rfl 0 rfl [0, 1, 2, 3, 4, 5, 6] [] [0, 1, 2, 3, 4, 5, 6] (ws' := (wdX7_likely cI cJ cZ q_this q_tape q_prior q_pipesIn q_pipe q_met q_chance q_rock q_people q_bad q_well q_ends q_runs q_way q_words q_told q_weight q_days q_depth q_bestDepth q_hopes q_planOf q_planDepth v_tapeSize (0 : Int32) v_salt v_dry v_rest v_fault v_faultPlace v_rocks v_villages v_day v_at v_allPipes v_end v_next v_kind v_which v_place v_isPlan v_planMany v_planPipes v_planDays w_prior w_pipesIn w_pipe w_met w_chance o_41.2)) ⟨rfl, rfl, rfl, rfl, rfl, rfl, rfl⟩ trivial rfl hl.1 rfl (Nat.le_of_ble_eq_true rfl) dX7_likely_41 hP hD hS (fun H locs hP hD hS => ?_)
              refine lv_lstore (lv' := [(4, .long o_41.1), (0, .ref q_this), (1, .int a1), (2, .int a2), (3, .int a3)]) hx hb dX7_likely_44 hl (by decide) rfl (fun ls hl => ?_)
              refine lv_lload hx hb dX7_likely_46 (lv_at hl 0 rfl) ?_
              refine lv_lconst (v := (0 : Int64)) hx hb dX7_likely_48 (by decide) ?_
              refine W.lcmp hx hb dX7_likely_49 ?_
              refine lv_if_ne (tgt := 57) hx hb dX7_likely_50 (by decide) (fun c1 => ?_) (fun c1 => ?_)
              · have c1 := fun h => c1 (lc_eq.mpr h)
                have hsh := ite_t hsh c1
                refine lv_aload_n hx hb dX7_likely_57 rfl (lv_at hl 1 rfl) ?_
                refine kget (ci := 7) S hK hP rfl inX7_likely_X7 0 rfl 32 (by decide) lkX7_likely_66 rfl dX7_likely_58 ?_
                refine lv_iload_n hx hb dX7_likely_61 rfl (lv_at hl 3 rfl) ?_
                obtain ⟨_, hg, hsh⟩ := bd hsh
                refine klal S hK hP 6 1 rfl rfl (gd_in hg) dX7_likely_62 ?_
                refine lv_lload hx hb dX7_likely_63 (lv_at hl 0 rfl) ?_
                obtain ⟨o_65, he, hsh⟩ := bd hsh
                refine kSl S hK hA (ctX7_divisor l D cI cJ cZ (o_41.2 (a2).toNatClampNeg) o_41.1 o_65 he) noE_cl (va_cwS 2 hts gX7_likely_X7_divisor rfl rfl rfl hdX7_divisor ⟨Nat.le_of_ble_eq_true rfl, Nat.le_of_ble_eq_true rfl⟩) [] [0, 1, 2, 3, 4, 5, 6] [0, 1, 2, 3, 4, 5, 6] (ws' := (wdX7_likely cI cJ cZ q_this q_tape q_prior q_pipesIn q_pipe q_met q_chance q_rock q_people q_bad q_well q_ends q_runs q_way q_words q_told q_weight q_days q_depth q_bestDepth q_hopes q_planOf q_planDepth v_tapeSize (0 : Int32) v_salt v_dry v_rest v_fault v_faultPlace v_rocks v_villages v_day v_at v_allPipes v_end v_next v_kind v_which v_place v_isPlan v_planMany v_planPipes v_planDays w_prior w_pipesIn w_pipe w_met w_chance o_41.2)) ⟨rfl, rfl, rfl, rfl, rfl, rfl, rfl⟩ trivial rfl hl.1 rfl (Nat.le_of_ble_eq_true rfl) dX7_likely_65 hP hD hS (fun H locs hP hD hS => ?_)
                refine lv_lstore (lv' := [(6, .long o_65), (4, .long o_41.1), (0, .ref q_this), (1, .int a1), (2, .int a2), (3, .int a3)]) hx hb dX7_likely_68 hl (by decide) rfl (fun ls hl => ?_)
                refine lv_iload_n hx hb dX7_likely_70 rfl (lv_at hl 5 rfl) ?_
                refine lv_if_ne (tgt := 86) hx hb dX7_likely_71 (by decide) (fun c1 => ?_) (fun c1 => ?_)
                · skip
                  have hsh := ite_t hsh c1
                  refine lv_lload hx hb dX7_likely_86 (lv_at hl 1 rfl) ?_
                  refine lv_lload hx hb dX7_likely_88 (lv_at hl 0 rfl) ?_
                  obtain ⟨_, hg, hsh⟩ := bd hsh
                  refine lv_ldiv hx hb dX7_likely_90 (gq_ne hg) ?_
                  have ho := Option.some.inj hsh
                  rw [← ho] at hret
                  exact hret _ _ _ _ dX7_likely_91 hP hD hS
                · skip
                  have hsh := ite_f hsh (fun h => h c1)
                  refine lv_aload_n hx hb dX7_likely_74 rfl (lv_at hl 2 rfl) ?_
                  refine kget (ci := 7) S hK hP rfl inX7_likely_X7 0 rfl 32 (by decide) lkX7_likely_66 rfl dX7_likely_75 ?_
                  refine lv_iload_n hx hb dX7_likely_78 rfl (lv_at hl 4 rfl) ?_
                  obtain ⟨_, hg, hsh⟩ := bd hsh
                  refine klal S hK hP 6 1 rfl rfl (gd_in hg) dX7_likely_79 ?_
                  refine lv_lload hx hb dX7_likely_80 (lv_at hl 0 rfl) ?_
                  obtain ⟨_, hg, hsh⟩ := bd hsh
                  refine lv_ldiv hx hb dX7_likely_82 (gq_ne hg) ?_
                  refine lv_goto (tgt := 91) hx hb dX7_likely_83 (by decide) ?_
                  have ho := Option.some.inj hsh
                  rw [← ho] at hret
                  exact hret _ _ _ _ dX7_likely_91 hP hD hS
              · have c1 := lc_eq.mp c1
                have hsh := ite_f hsh (fun h => h c1)
                refine lv_ldc2 hx hb hown (v := (-1 : Int64)) (hts _ (List.mem_of_getElem? (i := 3) rfl)) dX7_likely_53 ?_
                have ho := Option.some.inj hsh
                rw [← ho] at hret
                exact hret _ _ _ _ dX7_likely_56 hP hD hS
            · skip
              have hsh := ite_f hsh c1
              refine lv_ldc2 hx hb hown (v := (-1 : Int64)) (hts _ (List.mem_of_getElem? (i := 3) rfl)) dX7_likely_35 ?_
              have ho := Option.some.inj hsh
              rw [← ho] at hret
              exact hret _ _ _ _ dX7_likely_38 hP hD hS

/-! DryWellsModel.hopeOf -/
noncomputable def shX7_hopeOf_j_185 (x13_j_185 : Int32) (w_weight_j_185 : Nat → Int64) : Option (Int32 × (Nat → Int64)) :=
  some (x13_j_185, w_weight_j_185)
noncomputable def shX7_hopeOf_k140_179 (x14_140 : Int32) (x11_k140_179 : Int64) (x13_k140_179 : Int32) : Option ((Int64 × Int32 × Int32) ⊕ ((Int32))) :=
  some (Sum.inl (x11_k140_179, x13_k140_179, (x14_140 + (1 : Int32))))
noncomputable def shX7_hopeOf_L140 (x3_j_124 : Int64) (x7_j_124 : Int64) (x11_140 : Int64) (x13_140 : Int32) (x14_140 : Int32) : Option ((Int64 × Int32 × Int32) ⊕ ((Int32))) :=
  (if (20 : Int32) ≤ x14_140 then some (Sum.inr x13_140) else (if (x11_140 * (2 : Int64)) < (x3_j_124 * x7_j_124) then (shX7_hopeOf_k140_179 x14_140 (x11_140 * (2 : Int64)) (x13_140 * (2 : Int32))) else (shX7_hopeOf_k140_179 x14_140 ((x11_140 * (2 : Int64)) - (x3_j_124 * x7_j_124)) ((x13_140 * (2 : Int32)) + (1 : Int32)))))
noncomputable def shX7_hopeOf_j_124 (x3_j_124 : Int64) (x5_j_124 : Int64) (x7_j_124 : Int64) (w_weight_j_124 : Nat → Int64) : Option (Int32 × (Nat → Int64)) :=
  ((lp (fun s : Int64 × Int32 × Int32 => shX7_hopeOf_L140 x3_j_124 x7_j_124 s.1 s.2.1 s.2.2) (x5_j_124, (0 : Int32), (0 : Int32))).bind (fun p : Int32 => shX7_hopeOf_j_185 p w_weight_j_124))
noncomputable def shX7_hopeOf_k55_100 (x7_j_52 : Int64) (w_weight_j_52 : Nat → Int64) (x5_55 : Int64) (x9_55 : Int32) (x10_k55_100 : Int64) : Option ((Int64 × Int32) ⊕ ((Int64))) :=
  ((gd x9_55 3).bind fun _ => some (Sum.inl ((x5_55 + ((w_weight_j_52 (x9_55).toNatClampNeg) * (x7_j_52 - x10_k55_100))), (x9_55 + (1 : Int32)))))
noncomputable def shX7_hopeOf_L67 (a2 : Int32) (w_chance : Nat → Int32) (x9_55 : Int32) (x10_67 : Int64) (x12_67 : Int32) : Option ((Int64 × Int32) ⊕ ((Int64))) :=
  (if a2 < x12_67 then some (Sum.inr x10_67) else ((gd (((5 : Int32) * x9_55) + x12_67) 15).bind fun _ => some (Sum.inl ((x10_67 * (((16 : Int32) - (w_chance ((((5 : Int32) * x9_55) + x12_67)).toNatClampNeg))).toInt64), (x12_67 + (1 : Int32))))))
noncomputable def shX7_hopeOf_L55 (a2 : Int32) (w_chance : Nat → Int32) (x7_j_52 : Int64) (w_weight_j_52 : Nat → Int64) (x5_55 : Int64) (x9_55 : Int32) : Option ((Int64 × Int32) ⊕ ((Int64))) :=
  (if (3 : Int32) ≤ x9_55 then some (Sum.inr x5_55) else ((lp (fun s : Int64 × Int32 => shX7_hopeOf_L67 a2 w_chance x9_55 s.1 s.2) ((1 : Int64), (1 : Int32))).bind (fun p : Int64 => shX7_hopeOf_k55_100 x7_j_52 w_weight_j_52 x5_55 x9_55 p)))
noncomputable def shX7_hopeOf_j_52 (a2 : Int32) (w_chance : Nat → Int32) (x3_j_52 : Int64) (x5_j_52 : Int64) (x7_j_52 : Int64) (w_weight_j_52 : Nat → Int64) : Option (Int32 × (Nat → Int64)) :=
  ((lp (fun s : Int64 × Int32 => shX7_hopeOf_L55 a2 w_chance x7_j_52 w_weight_j_52 s.1 s.2) (x5_j_52, (0 : Int32))).bind (fun p : Int64 => shX7_hopeOf_j_124 x3_j_52 p x7_j_52 w_weight_j_52))
noncomputable def shX7_hopeOf_L32 (a2 : Int32) (x7_32 : Int64) (x9_32 : Int32) : Option ((Int64 × Int32) ⊕ ((Int64))) :=
  (if a2 ≤ x9_32 then some (Sum.inr x7_32) else some (Sum.inl ((x7_32 * (16 : Int64)), (x9_32 + (1 : Int32)))))
noncomputable def shX7_hopeOf (a1 : Int32) (a2 : Int32) (w_prior : Nat → Int32) (w_pipesIn : Nat → Int32) (w_pipe : Nat → Int32) (w_met : Nat → Int32) (w_chance : Nat → Int32) (w_rock : Nat → Int32) (w_weight : Nat → Int64) : Option (Int32 × (Nat → Int64)) :=
  ((gd a1 8).bind fun _ => ((shX7_weights (w_rock (a1).toNatClampNeg) w_prior w_pipesIn w_pipe w_met w_chance w_weight).bind fun o_7 => (if o_7.1 = (0 : Int64) then some ((0 : Int32), o_7.2) else (if ¬ a2 = 0 then ((lp (fun s : Int64 × Int32 => shX7_hopeOf_L32 a2 s.1 s.2) ((1 : Int64), (0 : Int32))).bind (fun p : Int64 => shX7_hopeOf_j_52 a2 w_chance o_7.1 (0 : Int64) p o_7.2)) else some ((0 : Int32), o_7.2)))))
def wdX7_hopeOf (cI cJ cZ : ClassId) (q_this q_tape q_prior q_pipesIn q_pipe q_met q_chance q_rock q_people q_bad q_well q_ends q_runs q_way q_words q_told q_weight q_days q_depth q_bestDepth q_hopes q_planOf q_planDepth : Nat) (v_tapeSize : Int32) (v_thrown : Int32) (v_salt : Int32) (v_dry : Int32) (v_rest : Int32) (v_fault : Int32) (v_faultPlace : Int32) (v_rocks : Int32) (v_villages : Int32) (v_day : Int32) (v_at : Int32) (v_allPipes : Int32) (v_end : Int32) (v_next : Int32) (v_kind : Int32) (v_which : Int32) (v_place : Int32) (v_isPlan : Int32) (v_planMany : Int32) (v_planPipes : Int32) (v_planDays : Int32) (w_prior : Nat → Int32) (w_pipesIn : Nat → Int32) (w_pipe : Nat → Int32) (w_met : Nat → Int32) (w_chance : Nat → Int32) (w_rock : Nat → Int32) (w_weight : Nat → Int64) : va_W := [(q_this, .inr (7, [.ref q_tape, .int v_tapeSize, .int v_thrown, .int v_salt, .int v_dry, .int v_rest, .int v_fault, .int v_faultPlace, .int v_rocks, .ref q_prior, .ref q_pipesIn, .ref q_pipe, .ref q_met, .ref q_chance, .int v_villages, .ref q_rock, .ref q_people, .ref q_bad, .ref q_well, .ref q_ends, .ref q_runs, .ref q_way, .int v_day, .int v_at, .int v_allPipes, .ref q_words, .int v_end, .int v_next, .int v_kind, .int v_which, .int v_place, .ref q_told, .ref q_weight, .ref q_days, .ref q_depth, .ref q_bestDepth, .ref q_hopes, .int v_isPlan, .int v_planMany, .int v_planPipes, .int v_planDays, .ref q_planOf, .ref q_planDepth])), (q_prior, .inl (cI, 12, .inl w_prior)), (q_pipesIn, .inl (cI, 4, .inl w_pipesIn)), (q_pipe, .inl (cI, 32, .inl w_pipe)), (q_met, .inl (cZ, 32, .inl w_met)), (q_chance, .inl (cI, 15, .inl w_chance)), (q_rock, .inl (cI, 8, .inl w_rock)), (q_weight, .inl (cJ, 3, .inr (.inl w_weight)))]
abbrev rmX7_hopeOf : Room := { frames := 1, cells := 0, slots := 0, locals := 26 }
theorem inX7_hopeOf_X7 : ∀ w ∈ u_ws RX7 TX7 43, w ∈ wsX7_hopeOf := fun _ h => List.mem_cons_of_mem _ (List.mem_append_right _ h)
theorem lkX7_hopeOf_39 : Cond.fieldLink RX7 39 (TX7 15).1 (TX7 15).2.1 (TX7 15).2.2.1 ∈ wsX7_hopeOf := List.mem_of_getElem? (i := 1) rfl
theorem lkX7_hopeOf_66 : Cond.fieldLink RX7 66 (TX7 32).1 (TX7 32).2.1 (TX7 32).2.2.1 ∈ wsX7_hopeOf := List.mem_of_getElem? (i := 4) rfl
theorem lkX7_hopeOf_36 : Cond.fieldLink RX7 36 (TX7 13).1 (TX7 13).2.1 (TX7 13).2.2.1 ∈ wsX7_hopeOf := List.mem_of_getElem? (i := 3) rfl
theorem hdX7_hopeOf : yX7_hopeOf.cls = RX7 ∧ yX7_hopeOf.cls ≠ "java/lang/invoke/MethodHandle" ∧ yX7_hopeOf.cls ≠ "java/lang/invoke/VarHandle" ∧ (parseMethodDescriptor yX7_hopeOf.desc).map (fun d => d.parameters.length) = some 2 := by decide +kernel
set_option maxHeartbeats 4000000 in
set_option maxRecDepth 100000 in
theorem ctX7_hopeOf (l : Launch) (D : va_G) (cI cJ cZ : ClassId) (q_this q_tape q_prior q_pipesIn q_pipe q_met q_chance q_rock q_people q_bad q_well q_ends q_runs q_way q_words q_told q_weight q_days q_depth q_bestDepth q_hopes q_planOf q_planDepth : Nat) (v_tapeSize : Int32) (v_thrown : Int32) (v_salt : Int32) (v_dry : Int32) (v_rest : Int32) (v_fault : Int32) (v_faultPlace : Int32) (v_rocks : Int32) (v_villages : Int32) (v_day : Int32) (v_at : Int32) (v_allPipes : Int32) (v_end : Int32) (v_next : Int32) (v_kind : Int32) (v_which : Int32) (v_place : Int32) (v_isPlan : Int32) (v_planMany : Int32) (v_planPipes : Int32) (v_planDays : Int32) (w_prior : Nat → Int32) (w_pipesIn : Nat → Int32) (w_pipe : Nat → Int32) (w_met : Nat → Int32) (w_chance : Nat → Int32) (w_rock : Nat → Int32) (w_weight : Nat → Int64) (a1 : Int32) (a2 : Int32) (o : Int32 × (Nat → Int64)) (hsh : shX7_hopeOf a1 a2 w_prior w_pipesIn w_pipe w_met w_chance w_rock w_weight = some o) : CtI l yX7_hopeOf wsX7_hopeOf rmX7_hopeOf D (tys3 cI cJ cZ) noE (wdX7_hopeOf cI cJ cZ q_this q_tape q_prior q_pipesIn q_pipe q_met q_chance q_rock q_people q_bad q_well q_ends q_runs q_way q_words q_told q_weight q_days q_depth q_bestDepth q_hopes q_planOf q_planDepth v_tapeSize v_thrown v_salt v_dry v_rest v_fault v_faultPlace v_rocks v_villages v_day v_at v_allPipes v_end v_next v_kind v_which v_place v_isPlan v_planMany v_planPipes v_planDays w_prior w_pipesIn w_pipe w_met w_chance w_rock w_weight) [.ref q_this, .int a1, .int a2] o.1 (wdX7_hopeOf cI cJ cZ q_this q_tape q_prior q_pipesIn q_pipe q_met q_chance q_rock q_people q_bad q_well q_ends q_runs q_way q_words q_told q_weight q_days q_depth q_bestDepth q_hopes q_planOf q_planDepth v_tapeSize v_thrown v_salt v_dry v_rest v_fault v_faultPlace v_rocks v_villages v_day v_at v_allPipes v_end v_next v_kind v_which v_place v_isPlan v_planMany v_planPipes v_planDays w_prior w_pipesIn w_pipe w_met w_chance w_rock o.2) := by
  refine ctI plX7 rfl (Nat.le_of_ble_eq_true rfl) ?_
  intro p e s m below meth c A Q S hK hA hE hret H locs hP hD hS ls hl
  replace S : CallFix p m c cX7_hopeOf 15 s _ wsX7_hopeOf RX7 := S
  generalize ([.ref q_this, .int a1, .int a2] : List Value).toArray = args at S hret ⊢
  obtain ⟨hx, hb, hml, hown, hts⟩ := id S
  replace hl : lv_has ls 15 [(0, .ref q_this), (1, .int a1), (2, .int a2)] := hl
  unfold shX7_hopeOf at hsh
  have Jj_185 : ∀ (x13_j_185 : Int32) (w_weight_j_185 : Nat → Int64) (H : Heap) (locs : List Loc), va_P D vwCl (wdX7_hopeOf cI cJ cZ q_this q_tape q_prior q_pipesIn q_pipe q_met q_chance q_rock q_people q_bad q_well q_ends q_runs q_way q_words q_told q_weight q_days q_depth q_bestDepth q_hopes q_planOf q_planDepth v_tapeSize v_thrown v_salt v_dry v_rest v_fault v_faultPlace v_rocks v_villages v_day v_at v_allPipes v_end v_next v_kind v_which v_place v_isPlan v_planMany v_planPipes v_planDays w_prior w_pipesIn w_pipe w_met w_chance w_rock w_weight_j_185) H → va_D A (wdX7_hopeOf cI cJ cZ q_this q_tape q_prior q_pipesIn q_pipe q_met q_chance q_rock q_people q_bad q_well q_ends q_runs q_way q_words q_told q_weight q_days q_depth q_bestDepth q_hopes q_planOf q_planDepth v_tapeSize v_thrown v_salt v_dry v_rest v_fault v_faultPlace v_rocks v_villages v_day v_at v_allPipes v_end v_next v_kind v_which v_place v_isPlan v_planMany v_planPipes v_planDays w_prior w_pipesIn w_pipe w_met w_chance w_rock w_weight_j_185) → va_S A s.heap H locs → ∀ ls : Array Slot, lv_has ls 15 [(13, .int x13_j_185)] → shX7_hopeOf_j_185 x13_j_185 w_weight_j_185 = some o → W p l e rmX7_hopeOf s m args below meth c H locs 0 0 Q (F0 m 185 ls []) := by
    intro x13_j_185 w_weight_j_185 H locs hP hD hS ls hl hsh
    unfold shX7_hopeOf_j_185 at hsh
    refine lv_iload hx hb dX7_hopeOf_185 (lv_at hl 0 rfl) ?_
    have ho := Option.some.inj hsh
    rw [← ho] at hret
    exact hret _ _ _ _ dX7_hopeOf_187 hP hD hS
  have Jj_124 : ∀ (x3_j_124 : Int64) (x5_j_124 : Int64) (x7_j_124 : Int64) (w_weight_j_124 : Nat → Int64) (H : Heap) (locs : List Loc), va_P D vwCl (wdX7_hopeOf cI cJ cZ q_this q_tape q_prior q_pipesIn q_pipe q_met q_chance q_rock q_people q_bad q_well q_ends q_runs q_way q_words q_told q_weight q_days q_depth q_bestDepth q_hopes q_planOf q_planDepth v_tapeSize v_thrown v_salt v_dry v_rest v_fault v_faultPlace v_rocks v_villages v_day v_at v_allPipes v_end v_next v_kind v_which v_place v_isPlan v_planMany v_planPipes v_planDays w_prior w_pipesIn w_pipe w_met w_chance w_rock w_weight_j_124) H → va_D A (wdX7_hopeOf cI cJ cZ q_this q_tape q_prior q_pipesIn q_pipe q_met q_chance q_rock q_people q_bad q_well q_ends q_runs q_way q_words q_told q_weight q_days q_depth q_bestDepth q_hopes q_planOf q_planDepth v_tapeSize v_thrown v_salt v_dry v_rest v_fault v_faultPlace v_rocks v_villages v_day v_at v_allPipes v_end v_next v_kind v_which v_place v_isPlan v_planMany v_planPipes v_planDays w_prior w_pipesIn w_pipe w_met w_chance w_rock w_weight_j_124) → va_S A s.heap H locs → ∀ ls : Array Slot, lv_has ls 15 [(3, .long x3_j_124), (5, .long x5_j_124), (7, .long x7_j_124)] → shX7_hopeOf_j_124 x3_j_124 x5_j_124 x7_j_124 w_weight_j_124 = some o → W p l e rmX7_hopeOf s m args below meth c H locs 0 0 Q (F0 m 124 ls []) := by
    intro x3_j_124 x5_j_124 x7_j_124 w_weight_j_124 H locs hP hD hS ls hl hsh
    unfold shX7_hopeOf_j_124 at hsh
    refine lv_lload_n hx hb dX7_hopeOf_124 rfl (lv_at hl 0 rfl) ?_
    refine lv_lload hx hb dX7_hopeOf_125 (lv_at hl 2 rfl) ?_
    refine lv_lmul hx hb dX7_hopeOf_127 ?_
    refine lv_lstore (lv' := [(9, .long (x3_j_124 * x7_j_124)), (3, .long x3_j_124), (5, .long x5_j_124), (7, .long x7_j_124)]) hx hb dX7_hopeOf_128 hl (by decide) rfl (fun ls hl => ?_)
    refine lv_lload hx hb dX7_hopeOf_130 (lv_at hl 2 rfl) ?_
    refine lv_lstore (lv' := [(11, .long x5_j_124), (9, .long (x3_j_124 * x7_j_124)), (3, .long x3_j_124), (5, .long x5_j_124), (7, .long x7_j_124)]) hx hb dX7_hopeOf_132 hl (by decide) rfl (fun ls hl => ?_)
    refine lv_iconst (v := (0 : Int32)) hx hb dX7_hopeOf_134 (by decide) ?_
    refine lv_istore (lv' := [(13, .int (0 : Int32)), (11, .long x5_j_124), (9, .long (x3_j_124 * x7_j_124)), (3, .long x3_j_124), (5, .long x5_j_124), (7, .long x7_j_124)]) hx hb dX7_hopeOf_135 hl (by decide) rfl (fun ls hl => ?_)
    refine lv_iconst (v := (0 : Int32)) hx hb dX7_hopeOf_137 (by decide) ?_
    refine lv_istore (lv' := [(14, .int (0 : Int32)), (13, .int (0 : Int32)), (11, .long x5_j_124), (9, .long (x3_j_124 * x7_j_124)), (3, .long x3_j_124), (5, .long x5_j_124), (7, .long x7_j_124)]) hx hb dX7_hopeOf_138 hl (by decide) rfl (fun ls hl => ?_)
    obtain ⟨r_140, hl_140, hk_140⟩ := bd hsh
    obtain ⟨n_140, hn_140⟩ := lp_iff.mp hl_140
    have L_140 : ∀ (n : Nat) (x11_140 : Int64) (x13_140 : Int32) (x14_140 : Int32) (H : Heap) (locs : List Loc), va_P D vwCl (wdX7_hopeOf cI cJ cZ q_this q_tape q_prior q_pipesIn q_pipe q_met q_chance q_rock q_people q_bad q_well q_ends q_runs q_way q_words q_told q_weight q_days q_depth q_bestDepth q_hopes q_planOf q_planDepth v_tapeSize v_thrown v_salt v_dry v_rest v_fault v_faultPlace v_rocks v_villages v_day v_at v_allPipes v_end v_next v_kind v_which v_place v_isPlan v_planMany v_planPipes v_planDays w_prior w_pipesIn w_pipe w_met w_chance w_rock w_weight_j_124) H → va_D A (wdX7_hopeOf cI cJ cZ q_this q_tape q_prior q_pipesIn q_pipe q_met q_chance q_rock q_people q_bad q_well q_ends q_runs q_way q_words q_told q_weight q_days q_depth q_bestDepth q_hopes q_planOf q_planDepth v_tapeSize v_thrown v_salt v_dry v_rest v_fault v_faultPlace v_rocks v_villages v_day v_at v_allPipes v_end v_next v_kind v_which v_place v_isPlan v_planMany v_planPipes v_planDays w_prior w_pipesIn w_pipe w_met w_chance w_rock w_weight_j_124) → va_S A s.heap H locs → ∀ ls : Array Slot, lv_has ls 15 [(9, .long (x3_j_124 * x7_j_124)), (11, .long x11_140), (13, .int x13_140), (14, .int x14_140)] → it (fun s : Int64 × Int32 × Int32 => shX7_hopeOf_L140 x3_j_124 x7_j_124 s.1 s.2.1 s.2.2) n (x11_140, x13_140, x14_140) = some r_140 → W p l e rmX7_hopeOf s m args below meth c H locs 0 0 Q (F0 m 140 ls []) := by
      intro n
      induction n with
      | zero => exact fun _ _ _ _ _ _ _ _ _ _ hi => it_0 hi
      | succ n ih_140 =>
        intro x11_140 x13_140 x14_140 H locs hP hD hS ls hl hi
        obtain ⟨b_140, hsh, hB1_140, hB2_140⟩ := it_b hi
        replace hsh : shX7_hopeOf_L140 x3_j_124 x7_j_124 x11_140 x13_140 x14_140 = some b_140 := hsh
        unfold shX7_hopeOf_L140 at hsh
        have Jk140_179 : ∀ (x11_k140_179 : Int64) (x13_k140_179 : Int32) (H : Heap) (locs : List Loc), va_P D vwCl (wdX7_hopeOf cI cJ cZ q_this q_tape q_prior q_pipesIn q_pipe q_met q_chance q_rock q_people q_bad q_well q_ends q_runs q_way q_words q_told q_weight q_days q_depth q_bestDepth q_hopes q_planOf q_planDepth v_tapeSize v_thrown v_salt v_dry v_rest v_fault v_faultPlace v_rocks v_villages v_day v_at v_allPipes v_end v_next v_kind v_which v_place v_isPlan v_planMany v_planPipes v_planDays w_prior w_pipesIn w_pipe w_met w_chance w_rock w_weight_j_124) H → va_D A (wdX7_hopeOf cI cJ cZ q_this q_tape q_prior q_pipesIn q_pipe q_met q_chance q_rock q_people q_bad q_well q_ends q_runs q_way q_words q_told q_weight q_days q_depth q_bestDepth q_hopes q_planOf q_planDepth v_tapeSize v_thrown v_salt v_dry v_rest v_fault v_faultPlace v_rocks v_villages v_day v_at v_allPipes v_end v_next v_kind v_which v_place v_isPlan v_planMany v_planPipes v_planDays w_prior w_pipesIn w_pipe w_met w_chance w_rock w_weight_j_124) → va_S A s.heap H locs → ∀ ls : Array Slot, lv_has ls 15 [(9, .long (x3_j_124 * x7_j_124)), (11, .long x11_k140_179), (13, .int x13_k140_179), (14, .int x14_140)] → shX7_hopeOf_k140_179 x14_140 x11_k140_179 x13_k140_179 = some b_140 → W p l e rmX7_hopeOf s m args below meth c H locs 0 0 Q (F0 m 179 ls []) := by
          intro x11_k140_179 x13_k140_179 H locs hP hD hS ls hl hsh
          unfold shX7_hopeOf_k140_179 at hsh
          refine lv_iinc (v := (x14_140 + (1 : Int32))) (lv' := [(14, .int (x14_140 + (1 : Int32))), (9, .long (x3_j_124 * x7_j_124)), (11, .long x11_k140_179), (13, .int x13_k140_179)]) hx hb dX7_hopeOf_179 hl (k := 3) rfl (congrArg (fun z : Int32 => x14_140 + z) (by decide)) (by decide) rfl (fun ls hl => ?_)
          refine lv_goto (tgt := 140) hx hb dX7_hopeOf_182 (by decide) ?_
          exact ih_140 x11_k140_179 x13_k140_179 (x14_140 + (1 : Int32)) H locs hP hD hS ls (lv_sub hl [1, 2, 3, 0] rfl) (hB1_140 _ hsh)
        refine lv_iload hx hb dX7_hopeOf_140 (lv_at hl 3 rfl) ?_
        refine lv_bipush (v := (20 : Int32)) hx hb dX7_hopeOf_142 (by decide) ?_
        refine lv_icmp_ge (tgt := 185) hx hb dX7_hopeOf_144 (by decide) (fun c1 => ?_) (fun c1 => ?_)
        · skip
          have hsh := ite_t hsh c1
          have he := hB2_140 _ hsh
          rw [← he] at hk_140
          exact Jj_185 x13_140 w_weight_j_124 H locs hP hD hS ls (lv_sub hl [2] rfl) hk_140
        · skip
          have hsh := ite_f hsh c1
          refine lv_lload hx hb dX7_hopeOf_147 (lv_at hl 1 rfl) ?_
          refine lv_ldc2 hx hb hown (v := (2 : Int64)) (hts _ (List.mem_of_getElem? (i := 5) rfl)) dX7_hopeOf_149 ?_
          refine lv_lmul hx hb dX7_hopeOf_152 ?_
          refine lv_lstore (lv' := [(11, .long (x11_140 * (2 : Int64))), (9, .long (x3_j_124 * x7_j_124)), (13, .int x13_140), (14, .int x14_140)]) hx hb dX7_hopeOf_153 hl (by decide) rfl (fun ls hl => ?_)
          refine lv_iload hx hb dX7_hopeOf_155 (lv_at hl 2 rfl) ?_
          refine lv_iconst (v := (2 : Int32)) hx hb dX7_hopeOf_157 (by decide) ?_
          refine lv_imul hx hb dX7_hopeOf_158 ?_
          refine lv_istore (lv' := [(13, .int (x13_140 * (2 : Int32))), (11, .long (x11_140 * (2 : Int64))), (9, .long (x3_j_124 * x7_j_124)), (14, .int x14_140)]) hx hb dX7_hopeOf_159 hl (by decide) rfl (fun ls hl => ?_)
          refine lv_lload hx hb dX7_hopeOf_161 (lv_at hl 1 rfl) ?_
          refine lv_lload hx hb dX7_hopeOf_163 (lv_at hl 2 rfl) ?_
          refine W.lcmp hx hb dX7_hopeOf_165 ?_
          refine lv_if_lt (tgt := 179) hx hb dX7_hopeOf_166 (by decide) (fun c1 => ?_) (fun c1 => ?_)
          · have c1 := (lg_cmp_lt _ _).mp c1
            have hsh := ite_t hsh c1
            exact Jk140_179 (x11_140 * (2 : Int64)) (x13_140 * (2 : Int32)) H locs hP hD hS ls (lv_sub hl [2, 1, 0, 3] rfl) hsh
          · have c1 := fun h => c1 ((lg_cmp_lt _ _).mpr h)
            have hsh := ite_f hsh c1
            refine lv_lload hx hb dX7_hopeOf_169 (lv_at hl 1 rfl) ?_
            refine lv_lload hx hb dX7_hopeOf_171 (lv_at hl 2 rfl) ?_
            refine lv_lsub hx hb dX7_hopeOf_173 ?_
            refine lv_lstore (lv' := [(11, .long ((x11_140 * (2 : Int64)) - (x3_j_124 * x7_j_124))), (13, .int (x13_140 * (2 : Int32))), (9, .long (x3_j_124 * x7_j_124)), (14, .int x14_140)]) hx hb dX7_hopeOf_174 hl (by decide) rfl (fun ls hl => ?_)
            refine lv_iinc (v := ((x13_140 * (2 : Int32)) + (1 : Int32))) (lv' := [(13, .int ((x13_140 * (2 : Int32)) + (1 : Int32))), (11, .long ((x11_140 * (2 : Int64)) - (x3_j_124 * x7_j_124))), (9, .long (x3_j_124 * x7_j_124)), (14, .int x14_140)]) hx hb dX7_hopeOf_176 hl (k := 1) rfl (congrArg (fun z : Int32 => (x13_140 * (2 : Int32)) + z) (by decide)) (by decide) rfl (fun ls hl => ?_)
            exact Jk140_179 ((x11_140 * (2 : Int64)) - (x3_j_124 * x7_j_124)) ((x13_140 * (2 : Int32)) + (1 : Int32)) H locs hP hD hS ls (lv_sub hl [2, 1, 0, 3] rfl) hsh
    exact L_140 n_140 x5_j_124 (0 : Int32) (0 : Int32) H locs hP hD hS ls (lv_sub hl [3, 2, 1, 0] rfl) hn_140
  have Jj_52 : ∀ (x3_j_52 : Int64) (x5_j_52 : Int64) (x7_j_52 : Int64) (w_weight_j_52 : Nat → Int64) (H : Heap) (locs : List Loc), va_P D vwCl (wdX7_hopeOf cI cJ cZ q_this q_tape q_prior q_pipesIn q_pipe q_met q_chance q_rock q_people q_bad q_well q_ends q_runs q_way q_words q_told q_weight q_days q_depth q_bestDepth q_hopes q_planOf q_planDepth v_tapeSize v_thrown v_salt v_dry v_rest v_fault v_faultPlace v_rocks v_villages v_day v_at v_allPipes v_end v_next v_kind v_which v_place v_isPlan v_planMany v_planPipes v_planDays w_prior w_pipesIn w_pipe w_met w_chance w_rock w_weight_j_52) H → va_D A (wdX7_hopeOf cI cJ cZ q_this q_tape q_prior q_pipesIn q_pipe q_met q_chance q_rock q_people q_bad q_well q_ends q_runs q_way q_words q_told q_weight q_days q_depth q_bestDepth q_hopes q_planOf q_planDepth v_tapeSize v_thrown v_salt v_dry v_rest v_fault v_faultPlace v_rocks v_villages v_day v_at v_allPipes v_end v_next v_kind v_which v_place v_isPlan v_planMany v_planPipes v_planDays w_prior w_pipesIn w_pipe w_met w_chance w_rock w_weight_j_52) → va_S A s.heap H locs → ∀ ls : Array Slot, lv_has ls 15 [(0, .ref q_this), (2, .int a2), (3, .long x3_j_52), (5, .long x5_j_52), (7, .long x7_j_52)] → shX7_hopeOf_j_52 a2 w_chance x3_j_52 x5_j_52 x7_j_52 w_weight_j_52 = some o → W p l e rmX7_hopeOf s m args below meth c H locs 0 0 Q (F0 m 52 ls []) := by
    intro x3_j_52 x5_j_52 x7_j_52 w_weight_j_52 H locs hP hD hS ls hl hsh
    unfold shX7_hopeOf_j_52 at hsh
    refine lv_iconst (v := (0 : Int32)) hx hb dX7_hopeOf_52 (by decide) ?_
    refine lv_istore (lv' := [(9, .int (0 : Int32)), (0, .ref q_this), (2, .int a2), (3, .long x3_j_52), (5, .long x5_j_52), (7, .long x7_j_52)]) hx hb dX7_hopeOf_53 hl (by decide) rfl (fun ls hl => ?_)
    obtain ⟨r_55, hl_55, hk_55⟩ := bd hsh
    obtain ⟨n_55, hn_55⟩ := lp_iff.mp hl_55
    have L_55 : ∀ (n : Nat) (x5_55 : Int64) (x9_55 : Int32) (H : Heap) (locs : List Loc), va_P D vwCl (wdX7_hopeOf cI cJ cZ q_this q_tape q_prior q_pipesIn q_pipe q_met q_chance q_rock q_people q_bad q_well q_ends q_runs q_way q_words q_told q_weight q_days q_depth q_bestDepth q_hopes q_planOf q_planDepth v_tapeSize v_thrown v_salt v_dry v_rest v_fault v_faultPlace v_rocks v_villages v_day v_at v_allPipes v_end v_next v_kind v_which v_place v_isPlan v_planMany v_planPipes v_planDays w_prior w_pipesIn w_pipe w_met w_chance w_rock w_weight_j_52) H → va_D A (wdX7_hopeOf cI cJ cZ q_this q_tape q_prior q_pipesIn q_pipe q_met q_chance q_rock q_people q_bad q_well q_ends q_runs q_way q_words q_told q_weight q_days q_depth q_bestDepth q_hopes q_planOf q_planDepth v_tapeSize v_thrown v_salt v_dry v_rest v_fault v_faultPlace v_rocks v_villages v_day v_at v_allPipes v_end v_next v_kind v_which v_place v_isPlan v_planMany v_planPipes v_planDays w_prior w_pipesIn w_pipe w_met w_chance w_rock w_weight_j_52) → va_S A s.heap H locs → ∀ ls : Array Slot, lv_has ls 15 [(0, .ref q_this), (2, .int a2), (3, .long x3_j_52), (5, .long x5_55), (7, .long x7_j_52), (9, .int x9_55)] → it (fun s : Int64 × Int32 => shX7_hopeOf_L55 a2 w_chance x7_j_52 w_weight_j_52 s.1 s.2) n (x5_55, x9_55) = some r_55 → W p l e rmX7_hopeOf s m args below meth c H locs 0 0 Q (F0 m 55 ls []) := by
      intro n
      induction n with
      | zero => exact fun _ _ _ _ _ _ _ _ _ hi => it_0 hi
      | succ n ih_55 =>
        intro x5_55 x9_55 H locs hP hD hS ls hl hi
        obtain ⟨b_55, hsh, hB1_55, hB2_55⟩ := it_b hi
        replace hsh : shX7_hopeOf_L55 a2 w_chance x7_j_52 w_weight_j_52 x5_55 x9_55 = some b_55 := hsh
        unfold shX7_hopeOf_L55 at hsh
        have Jk55_100 : ∀ (x10_k55_100 : Int64) (H : Heap) (locs : List Loc), va_P D vwCl (wdX7_hopeOf cI cJ cZ q_this q_tape q_prior q_pipesIn q_pipe q_met q_chance q_rock q_people q_bad q_well q_ends q_runs q_way q_words q_told q_weight q_days q_depth q_bestDepth q_hopes q_planOf q_planDepth v_tapeSize v_thrown v_salt v_dry v_rest v_fault v_faultPlace v_rocks v_villages v_day v_at v_allPipes v_end v_next v_kind v_which v_place v_isPlan v_planMany v_planPipes v_planDays w_prior w_pipesIn w_pipe w_met w_chance w_rock w_weight_j_52) H → va_D A (wdX7_hopeOf cI cJ cZ q_this q_tape q_prior q_pipesIn q_pipe q_met q_chance q_rock q_people q_bad q_well q_ends q_runs q_way q_words q_told q_weight q_days q_depth q_bestDepth q_hopes q_planOf q_planDepth v_tapeSize v_thrown v_salt v_dry v_rest v_fault v_faultPlace v_rocks v_villages v_day v_at v_allPipes v_end v_next v_kind v_which v_place v_isPlan v_planMany v_planPipes v_planDays w_prior w_pipesIn w_pipe w_met w_chance w_rock w_weight_j_52) → va_S A s.heap H locs → ∀ ls : Array Slot, lv_has ls 15 [(0, .ref q_this), (2, .int a2), (3, .long x3_j_52), (5, .long x5_55), (7, .long x7_j_52), (9, .int x9_55), (10, .long x10_k55_100)] → shX7_hopeOf_k55_100 x7_j_52 w_weight_j_52 x5_55 x9_55 x10_k55_100 = some b_55 → W p l e rmX7_hopeOf s m args below meth c H locs 0 0 Q (F0 m 100 ls []) := by
          intro x10_k55_100 H locs hP hD hS ls hl hsh
          unfold shX7_hopeOf_k55_100 at hsh
          refine lv_lload hx hb dX7_hopeOf_100 (lv_at hl 3 rfl) ?_
          refine lv_aload_n hx hb dX7_hopeOf_102 rfl (lv_at hl 0 rfl) ?_
          refine kget (ci := 7) S hK hP rfl inX7_hopeOf_X7 0 rfl 32 (by decide) lkX7_hopeOf_66 rfl dX7_hopeOf_103 ?_
          refine lv_iload hx hb dX7_hopeOf_106 (lv_at hl 5 rfl) ?_
          obtain ⟨_, hg, hsh⟩ := bd hsh
          refine klal S hK hP 7 1 rfl rfl (gd_in hg) dX7_hopeOf_108 ?_
          refine lv_lload hx hb dX7_hopeOf_109 (lv_at hl 4 rfl) ?_
          refine lv_lload hx hb dX7_hopeOf_111 (lv_at hl 6 rfl) ?_
          refine lv_lsub hx hb dX7_hopeOf_113 ?_
          refine lv_lmul hx hb dX7_hopeOf_114 ?_
          refine lv_ladd hx hb dX7_hopeOf_115 ?_
          refine lv_lstore (lv' := [(5, .long (x5_55 + ((w_weight_j_52 (x9_55).toNatClampNeg) * (x7_j_52 - x10_k55_100)))), (0, .ref q_this), (2, .int a2), (3, .long x3_j_52), (7, .long x7_j_52), (9, .int x9_55), (10, .long x10_k55_100)]) hx hb dX7_hopeOf_116 hl (by decide) rfl (fun ls hl => ?_)
          refine lv_iinc (v := (x9_55 + (1 : Int32))) (lv' := [(9, .int (x9_55 + (1 : Int32))), (5, .long (x5_55 + ((w_weight_j_52 (x9_55).toNatClampNeg) * (x7_j_52 - x10_k55_100)))), (0, .ref q_this), (2, .int a2), (3, .long x3_j_52), (7, .long x7_j_52), (10, .long x10_k55_100)]) hx hb dX7_hopeOf_118 hl (k := 5) rfl (congrArg (fun z : Int32 => x9_55 + z) (by decide)) (by decide) rfl (fun ls hl => ?_)
          refine lv_goto (tgt := 55) hx hb dX7_hopeOf_121 (by decide) ?_
          exact ih_55 (x5_55 + ((w_weight_j_52 (x9_55).toNatClampNeg) * (x7_j_52 - x10_k55_100))) (x9_55 + (1 : Int32)) H locs hP hD hS ls (lv_sub hl [2, 3, 4, 1, 5, 0] rfl) (hB1_55 _ hsh)
        refine lv_iload hx hb dX7_hopeOf_55 (lv_at hl 5 rfl) ?_
        refine lv_iconst (v := (3 : Int32)) hx hb dX7_hopeOf_57 (by decide) ?_
        refine lv_icmp_ge (tgt := 124) hx hb dX7_hopeOf_58 (by decide) (fun c1 => ?_) (fun c1 => ?_)
        · skip
          have hsh := ite_t hsh c1
          have he := hB2_55 _ hsh
          rw [← he] at hk_55
          exact Jj_124 x3_j_52 x5_55 x7_j_52 w_weight_j_52 H locs hP hD hS ls (lv_sub hl [2, 3, 4] rfl) hk_55
        · skip
          have hsh := ite_f hsh c1
          refine lv_lconst (v := (1 : Int64)) hx hb dX7_hopeOf_61 (by decide) ?_
          refine lv_lstore (lv' := [(10, .long (1 : Int64)), (0, .ref q_this), (2, .int a2), (3, .long x3_j_52), (5, .long x5_55), (7, .long x7_j_52), (9, .int x9_55)]) hx hb dX7_hopeOf_62 hl (by decide) rfl (fun ls hl => ?_)
          refine lv_iconst (v := (1 : Int32)) hx hb dX7_hopeOf_64 (by decide) ?_
          refine lv_istore (lv' := [(12, .int (1 : Int32)), (10, .long (1 : Int64)), (0, .ref q_this), (2, .int a2), (3, .long x3_j_52), (5, .long x5_55), (7, .long x7_j_52), (9, .int x9_55)]) hx hb dX7_hopeOf_65 hl (by decide) rfl (fun ls hl => ?_)
          obtain ⟨r_67, hl_67, hk_67⟩ := bd hsh
          obtain ⟨n_67, hn_67⟩ := lp_iff.mp hl_67
          have L_67 : ∀ (n : Nat) (x10_67 : Int64) (x12_67 : Int32) (H : Heap) (locs : List Loc), va_P D vwCl (wdX7_hopeOf cI cJ cZ q_this q_tape q_prior q_pipesIn q_pipe q_met q_chance q_rock q_people q_bad q_well q_ends q_runs q_way q_words q_told q_weight q_days q_depth q_bestDepth q_hopes q_planOf q_planDepth v_tapeSize v_thrown v_salt v_dry v_rest v_fault v_faultPlace v_rocks v_villages v_day v_at v_allPipes v_end v_next v_kind v_which v_place v_isPlan v_planMany v_planPipes v_planDays w_prior w_pipesIn w_pipe w_met w_chance w_rock w_weight_j_52) H → va_D A (wdX7_hopeOf cI cJ cZ q_this q_tape q_prior q_pipesIn q_pipe q_met q_chance q_rock q_people q_bad q_well q_ends q_runs q_way q_words q_told q_weight q_days q_depth q_bestDepth q_hopes q_planOf q_planDepth v_tapeSize v_thrown v_salt v_dry v_rest v_fault v_faultPlace v_rocks v_villages v_day v_at v_allPipes v_end v_next v_kind v_which v_place v_isPlan v_planMany v_planPipes v_planDays w_prior w_pipesIn w_pipe w_met w_chance w_rock w_weight_j_52) → va_S A s.heap H locs → ∀ ls : Array Slot, lv_has ls 15 [(0, .ref q_this), (2, .int a2), (3, .long x3_j_52), (5, .long x5_55), (7, .long x7_j_52), (9, .int x9_55), (10, .long x10_67), (12, .int x12_67)] → it (fun s : Int64 × Int32 => shX7_hopeOf_L67 a2 w_chance x9_55 s.1 s.2) n (x10_67, x12_67) = some r_67 → W p l e rmX7_hopeOf s m args below meth c H locs 0 0 Q (F0 m 67 ls []) := by
            intro n
            induction n with
            | zero => exact fun _ _ _ _ _ _ _ _ _ hi => it_0 hi
            | succ n ih_67 =>
              intro x10_67 x12_67 H locs hP hD hS ls hl hi
              obtain ⟨b_67, hsh, hB1_67, hB2_67⟩ := it_b hi
              replace hsh : shX7_hopeOf_L67 a2 w_chance x9_55 x10_67 x12_67 = some b_67 := hsh
              unfold shX7_hopeOf_L67 at hsh
              refine lv_iload hx hb dX7_hopeOf_67 (lv_at hl 7 rfl) ?_
              refine lv_iload_n hx hb dX7_hopeOf_69 rfl (lv_at hl 1 rfl) ?_
              refine lv_icmp_gt (tgt := 100) hx hb dX7_hopeOf_70 (by decide) (fun c1 => ?_) (fun c1 => ?_)
              · skip
                have hsh := ite_t hsh c1
                have he := hB2_67 _ hsh
                rw [← he] at hk_67
                exact Jk55_100 x10_67 H locs hP hD hS ls (lv_sub hl [0, 1, 2, 3, 4, 5, 6] rfl) hk_67
              · skip
                have hsh := ite_f hsh c1
                refine lv_lload hx hb dX7_hopeOf_73 (lv_at hl 6 rfl) ?_
                refine lv_bipush (v := (16 : Int32)) hx hb dX7_hopeOf_75 (by decide) ?_
                refine lv_aload_n hx hb dX7_hopeOf_77 rfl (lv_at hl 0 rfl) ?_
                refine kget (ci := 7) S hK hP rfl inX7_hopeOf_X7 0 rfl 13 (by decide) lkX7_hopeOf_36 rfl dX7_hopeOf_78 ?_
                refine lv_iconst (v := (5 : Int32)) hx hb dX7_hopeOf_81 (by decide) ?_
                refine lv_iload hx hb dX7_hopeOf_82 (lv_at hl 5 rfl) ?_
                refine lv_imul hx hb dX7_hopeOf_84 ?_
                refine lv_iload hx hb dX7_hopeOf_85 (lv_at hl 7 rfl) ?_
                refine lv_iadd hx hb dX7_hopeOf_87 ?_
                obtain ⟨_, hg, hsh⟩ := bd hsh
                refine kial S hK hP 5 0 rfl rfl (gd_in hg) dX7_hopeOf_88 ?_
                refine lv_isub hx hb dX7_hopeOf_89 ?_
                refine lv_i2l hx hb dX7_hopeOf_90 rfl ?_
                refine lv_lmul hx hb dX7_hopeOf_91 ?_
                refine lv_lstore (lv' := [(10, .long (x10_67 * (((16 : Int32) - (w_chance ((((5 : Int32) * x9_55) + x12_67)).toNatClampNeg))).toInt64)), (0, .ref q_this), (2, .int a2), (3, .long x3_j_52), (5, .long x5_55), (7, .long x7_j_52), (9, .int x9_55), (12, .int x12_67)]) hx hb dX7_hopeOf_92 hl (by decide) rfl (fun ls hl => ?_)
                refine lv_iinc (v := (x12_67 + (1 : Int32))) (lv' := [(12, .int (x12_67 + (1 : Int32))), (10, .long (x10_67 * (((16 : Int32) - (w_chance ((((5 : Int32) * x9_55) + x12_67)).toNatClampNeg))).toInt64)), (0, .ref q_this), (2, .int a2), (3, .long x3_j_52), (5, .long x5_55), (7, .long x7_j_52), (9, .int x9_55)]) hx hb dX7_hopeOf_94 hl (k := 7) rfl (congrArg (fun z : Int32 => x12_67 + z) (by decide)) (by decide) rfl (fun ls hl => ?_)
                refine lv_goto (tgt := 67) hx hb dX7_hopeOf_97 (by decide) ?_
                exact ih_67 (x10_67 * (((16 : Int32) - (w_chance ((((5 : Int32) * x9_55) + x12_67)).toNatClampNeg))).toInt64) (x12_67 + (1 : Int32)) H locs hP hD hS ls (lv_sub hl [2, 3, 4, 5, 6, 7, 1, 0] rfl) (hB1_67 _ hsh)
          exact L_67 n_67 (1 : Int64) (1 : Int32) H locs hP hD hS ls (lv_sub hl [2, 3, 4, 5, 6, 7, 1, 0] rfl) hn_67
    exact L_55 n_55 x5_j_52 (0 : Int32) H locs hP hD hS ls (lv_sub hl [1, 2, 3, 4, 5, 0] rfl) hn_55
  refine lv_aload_n hx hb dX7_hopeOf_0 rfl (lv_at hl 0 rfl) ?_
  refine lv_aload_n hx hb dX7_hopeOf_1 rfl (lv_at hl 0 rfl) ?_
  refine kget (ci := 7) S hK hP rfl inX7_hopeOf_X7 0 rfl 15 (by decide) lkX7_hopeOf_39 rfl dX7_hopeOf_2 ?_
  refine lv_iload_n hx hb dX7_hopeOf_5 rfl (lv_at hl 1 rfl) ?_
  obtain ⟨_, hg, hsh⟩ := bd hsh
  refine kial S hK hP 6 0 rfl rfl (gd_in hg) dX7_hopeOf_6 ?_
  obtain ⟨o_7, he, hsh⟩ := bd hsh
  refine kVl (ci := 7) S hK hA (ctX7_weights l D cI cJ cZ q_this q_tape q_prior q_pipesIn q_pipe q_met q_chance q_rock q_people q_bad q_well q_ends q_runs q_way q_words q_told q_weight q_days q_depth q_bestDepth q_hopes q_planOf q_planDepth v_tapeSize v_thrown v_salt v_dry v_rest v_fault v_faultPlace v_rocks v_villages v_day v_at v_allPipes v_end v_next v_kind v_which v_place v_isPlan v_planMany v_planPipes v_planDays w_prior w_pipesIn w_pipe w_met w_chance w_weight (w_rock (a1).toNatClampNeg) o_7 he) noE_cl (cwV 1 hts gX7_hopeOf_X7_weights rfl rfl rfl hdX7_weights ⟨Nat.le_of_ble_eq_true rfl, Nat.le_of_ble_eq_true rfl⟩) rfl 0 rfl [0, 1, 2, 3, 4, 5, 7] [6] [1, 2, 3, 4, 5, 6, 0, 7] (ws' := (wdX7_hopeOf cI cJ cZ q_this q_tape q_prior q_pipesIn q_pipe q_met q_chance q_rock q_people q_bad q_well q_ends q_runs q_way q_words q_told q_weight q_days q_depth q_bestDepth q_hopes q_planOf q_planDepth v_tapeSize v_thrown v_salt v_dry v_rest v_fault v_faultPlace v_rocks v_villages v_day v_at v_allPipes v_end v_next v_kind v_which v_place v_isPlan v_planMany v_planPipes v_planDays w_prior w_pipesIn w_pipe w_met w_chance w_rock o_7.2)) ⟨rfl, rfl, rfl, rfl, rfl, rfl, rfl⟩ trivial rfl hl.1 rfl (Nat.le_of_ble_eq_true rfl) dX7_hopeOf_7 hP hD hS (fun H locs hP hD hS => ?_)
  refine lv_lstore_n (lv' := [(3, .long o_7.1), (0, .ref q_this), (1, .int a1), (2, .int a2)]) hx hb dX7_hopeOf_10 rfl hl (by decide) rfl (fun ls hl => ?_)
  refine lv_lload_n hx hb dX7_hopeOf_11 rfl (lv_at hl 0 rfl) ?_
  refine lv_lconst (v := (0 : Int64)) hx hb dX7_hopeOf_12 (by decide) ?_
  refine W.lcmp hx hb dX7_hopeOf_13 ?_
  refine lv_if_eq (tgt := 21) hx hb dX7_hopeOf_14 (by decide) (fun c1 => ?_) (fun c1 => ?_)
  · have c1 := lc_eq.mp c1
    have hsh := ite_t hsh c1
    refine lv_iconst (v := (0 : Int32)) hx hb dX7_hopeOf_21 (by decide) ?_
    have ho := Option.some.inj hsh
    rw [← ho] at hret
    exact hret _ _ _ _ dX7_hopeOf_22 hP hD hS
  · have c1 := fun h => c1 (lc_eq.mpr h)
    have hsh := ite_f hsh c1
    refine lv_iload_n hx hb dX7_hopeOf_17 rfl (lv_at hl 3 rfl) ?_
    refine lv_if_ne (tgt := 23) hx hb dX7_hopeOf_18 (by decide) (fun c1 => ?_) (fun c1 => ?_)
    · skip
      have hsh := ite_t hsh c1
      refine lv_lconst (v := (0 : Int64)) hx hb dX7_hopeOf_23 (by decide) ?_
      refine lv_lstore (lv' := [(5, .long (0 : Int64)), (3, .long o_7.1), (0, .ref q_this), (1, .int a1), (2, .int a2)]) hx hb dX7_hopeOf_24 hl (by decide) rfl (fun ls hl => ?_)
      refine lv_lconst (v := (1 : Int64)) hx hb dX7_hopeOf_26 (by decide) ?_
      refine lv_lstore (lv' := [(7, .long (1 : Int64)), (5, .long (0 : Int64)), (3, .long o_7.1), (0, .ref q_this), (1, .int a1), (2, .int a2)]) hx hb dX7_hopeOf_27 hl (by decide) rfl (fun ls hl => ?_)
      refine lv_iconst (v := (0 : Int32)) hx hb dX7_hopeOf_29 (by decide) ?_
      refine lv_istore (lv' := [(9, .int (0 : Int32)), (7, .long (1 : Int64)), (5, .long (0 : Int64)), (3, .long o_7.1), (0, .ref q_this), (1, .int a1), (2, .int a2)]) hx hb dX7_hopeOf_30 hl (by decide) rfl (fun ls hl => ?_)
      obtain ⟨r_32, hl_32, hk_32⟩ := bd hsh
      obtain ⟨n_32, hn_32⟩ := lp_iff.mp hl_32
      have L_32 : ∀ (n : Nat) (x7_32 : Int64) (x9_32 : Int32) (H : Heap) (locs : List Loc), va_P D vwCl (wdX7_hopeOf cI cJ cZ q_this q_tape q_prior q_pipesIn q_pipe q_met q_chance q_rock q_people q_bad q_well q_ends q_runs q_way q_words q_told q_weight q_days q_depth q_bestDepth q_hopes q_planOf q_planDepth v_tapeSize v_thrown v_salt v_dry v_rest v_fault v_faultPlace v_rocks v_villages v_day v_at v_allPipes v_end v_next v_kind v_which v_place v_isPlan v_planMany v_planPipes v_planDays w_prior w_pipesIn w_pipe w_met w_chance w_rock o_7.2) H → va_D A (wdX7_hopeOf cI cJ cZ q_this q_tape q_prior q_pipesIn q_pipe q_met q_chance q_rock q_people q_bad q_well q_ends q_runs q_way q_words q_told q_weight q_days q_depth q_bestDepth q_hopes q_planOf q_planDepth v_tapeSize v_thrown v_salt v_dry v_rest v_fault v_faultPlace v_rocks v_villages v_day v_at v_allPipes v_end v_next v_kind v_which v_place v_isPlan v_planMany v_planPipes v_planDays w_prior w_pipesIn w_pipe w_met w_chance w_rock o_7.2) → va_S A s.heap H locs → ∀ ls : Array Slot, lv_has ls 15 [(0, .ref q_this), (2, .int a2), (3, .long o_7.1), (5, .long (0 : Int64)), (7, .long x7_32), (9, .int x9_32)] → it (fun s : Int64 × Int32 => shX7_hopeOf_L32 a2 s.1 s.2) n (x7_32, x9_32) = some r_32 → W p l e rmX7_hopeOf s m args below meth c H locs 0 0 Q (F0 m 32 ls []) := by
        intro n
        induction n with
        | zero => exact fun _ _ _ _ _ _ _ _ _ hi => it_0 hi
        | succ n ih_32 =>
          intro x7_32 x9_32 H locs hP hD hS ls hl hi
          obtain ⟨b_32, hsh, hB1_32, hB2_32⟩ := it_b hi
          replace hsh : shX7_hopeOf_L32 a2 x7_32 x9_32 = some b_32 := hsh
          unfold shX7_hopeOf_L32 at hsh
          refine lv_iload hx hb dX7_hopeOf_32 (lv_at hl 5 rfl) ?_
          refine lv_iload_n hx hb dX7_hopeOf_34 rfl (lv_at hl 1 rfl) ?_
          refine lv_icmp_ge (tgt := 52) hx hb dX7_hopeOf_35 (by decide) (fun c1 => ?_) (fun c1 => ?_)
          · skip
            have hsh := ite_t hsh c1
            have he := hB2_32 _ hsh
            rw [← he] at hk_32
            exact Jj_52 o_7.1 (0 : Int64) x7_32 o_7.2 H locs hP hD hS ls (lv_sub hl [0, 1, 2, 3, 4] rfl) hk_32
          · skip
            have hsh := ite_f hsh c1
            refine lv_lload hx hb dX7_hopeOf_38 (lv_at hl 4 rfl) ?_
            refine lv_ldc2 hx hb hown (v := (16 : Int64)) (hts _ (List.mem_of_getElem? (i := 2) rfl)) dX7_hopeOf_40 ?_
            refine lv_lmul hx hb dX7_hopeOf_43 ?_
            refine lv_lstore (lv' := [(7, .long (x7_32 * (16 : Int64))), (0, .ref q_this), (2, .int a2), (3, .long o_7.1), (5, .long (0 : Int64)), (9, .int x9_32)]) hx hb dX7_hopeOf_44 hl (by decide) rfl (fun ls hl => ?_)
            refine lv_iinc (v := (x9_32 + (1 : Int32))) (lv' := [(9, .int (x9_32 + (1 : Int32))), (7, .long (x7_32 * (16 : Int64))), (0, .ref q_this), (2, .int a2), (3, .long o_7.1), (5, .long (0 : Int64))]) hx hb dX7_hopeOf_46 hl (k := 5) rfl (congrArg (fun z : Int32 => x9_32 + z) (by decide)) (by decide) rfl (fun ls hl => ?_)
            refine lv_goto (tgt := 32) hx hb dX7_hopeOf_49 (by decide) ?_
            exact ih_32 (x7_32 * (16 : Int64)) (x9_32 + (1 : Int32)) H locs hP hD hS ls (lv_sub hl [2, 3, 4, 5, 1, 0] rfl) (hB1_32 _ hsh)
      exact L_32 n_32 (1 : Int64) (0 : Int32) H locs hP hD hS ls (lv_sub hl [4, 6, 3, 2, 1, 0] rfl) hn_32
    · skip
      have hsh := ite_f hsh (fun h => h c1)
      refine lv_iconst (v := (0 : Int32)) hx hb dX7_hopeOf_21 (by decide) ?_
      have ho := Option.some.inj hsh
      rw [← ho] at hret
      exact hret _ _ _ _ dX7_hopeOf_22 hP hD hS

/-! DryWellsModel.hope -/
noncomputable def shX7_hope (a1 : Int32) (a2 : Int32) (v_thrown : Int32) (v_villages : Int32) (w_prior : Nat → Int32) (w_pipesIn : Nat → Int32) (w_pipe : Nat → Int32) (w_met : Nat → Int32) (w_chance : Nat → Int32) (w_rock : Nat → Int32) (w_weight : Nat → Int64) : Option (Int32 × Int32 × (Nat → Int64)) :=
  ((shX7_isVillage a1 v_villages).bind fun o_7 => (if o_7 = 0 then some ((-1 : Int32), (0 : Int32), w_weight) else (if a2 < (1 : Int32) then some ((-1 : Int32), (0 : Int32), w_weight) else (if a2 ≤ (4 : Int32) then ((shX7_hopeOf a1 a2 w_prior w_pipesIn w_pipe w_met w_chance w_rock w_weight).bind fun o_30 => some (o_30.1, (0 : Int32), o_30.2)) else some ((-1 : Int32), (0 : Int32), w_weight)))))
def wdX7_hope (cI cJ cZ : ClassId) (q_this q_tape q_prior q_pipesIn q_pipe q_met q_chance q_rock q_people q_bad q_well q_ends q_runs q_way q_words q_told q_weight q_days q_depth q_bestDepth q_hopes q_planOf q_planDepth : Nat) (v_tapeSize : Int32) (v_thrown : Int32) (v_salt : Int32) (v_dry : Int32) (v_rest : Int32) (v_fault : Int32) (v_faultPlace : Int32) (v_rocks : Int32) (v_villages : Int32) (v_day : Int32) (v_at : Int32) (v_allPipes : Int32) (v_end : Int32) (v_next : Int32) (v_kind : Int32) (v_which : Int32) (v_place : Int32) (v_isPlan : Int32) (v_planMany : Int32) (v_planPipes : Int32) (v_planDays : Int32) (w_prior : Nat → Int32) (w_pipesIn : Nat → Int32) (w_pipe : Nat → Int32) (w_met : Nat → Int32) (w_chance : Nat → Int32) (w_rock : Nat → Int32) (w_weight : Nat → Int64) : va_W := [(q_this, .inr (7, [.ref q_tape, .int v_tapeSize, .int v_thrown, .int v_salt, .int v_dry, .int v_rest, .int v_fault, .int v_faultPlace, .int v_rocks, .ref q_prior, .ref q_pipesIn, .ref q_pipe, .ref q_met, .ref q_chance, .int v_villages, .ref q_rock, .ref q_people, .ref q_bad, .ref q_well, .ref q_ends, .ref q_runs, .ref q_way, .int v_day, .int v_at, .int v_allPipes, .ref q_words, .int v_end, .int v_next, .int v_kind, .int v_which, .int v_place, .ref q_told, .ref q_weight, .ref q_days, .ref q_depth, .ref q_bestDepth, .ref q_hopes, .int v_isPlan, .int v_planMany, .int v_planPipes, .int v_planDays, .ref q_planOf, .ref q_planDepth])), (q_prior, .inl (cI, 12, .inl w_prior)), (q_pipesIn, .inl (cI, 4, .inl w_pipesIn)), (q_pipe, .inl (cI, 32, .inl w_pipe)), (q_met, .inl (cZ, 32, .inl w_met)), (q_chance, .inl (cI, 15, .inl w_chance)), (q_rock, .inl (cI, 8, .inl w_rock)), (q_weight, .inl (cJ, 3, .inr (.inl w_weight)))]
abbrev rmX7_hope : Room := { frames := 2, cells := 0, slots := 0, locals := 60 }
theorem inX7_hope_X7 : ∀ w ∈ u_ws RX7 TX7 43, w ∈ wsX7_hope := fun _ h => List.mem_cons_of_mem _ (List.mem_append_right _ h)
theorem lkX7_hope_88 : Cond.fieldLink RX7 88 (TX7 2).1 (TX7 2).2.1 (TX7 2).2.2.1 ∈ wsX7_hope := List.mem_of_getElem? (i := 1) rfl
theorem hdX7_hope : yX7_hope.cls = RX7 ∧ yX7_hope.cls ≠ "java/lang/invoke/MethodHandle" ∧ yX7_hope.cls ≠ "java/lang/invoke/VarHandle" ∧ (parseMethodDescriptor yX7_hope.desc).map (fun d => d.parameters.length) = some 2 := by decide +kernel
set_option maxHeartbeats 4000000 in
set_option maxRecDepth 100000 in
theorem ctX7_hope (l : Launch) (D : va_G) (cI cJ cZ : ClassId) (q_this q_tape q_prior q_pipesIn q_pipe q_met q_chance q_rock q_people q_bad q_well q_ends q_runs q_way q_words q_told q_weight q_days q_depth q_bestDepth q_hopes q_planOf q_planDepth : Nat) (v_tapeSize : Int32) (v_thrown : Int32) (v_salt : Int32) (v_dry : Int32) (v_rest : Int32) (v_fault : Int32) (v_faultPlace : Int32) (v_rocks : Int32) (v_villages : Int32) (v_day : Int32) (v_at : Int32) (v_allPipes : Int32) (v_end : Int32) (v_next : Int32) (v_kind : Int32) (v_which : Int32) (v_place : Int32) (v_isPlan : Int32) (v_planMany : Int32) (v_planPipes : Int32) (v_planDays : Int32) (w_prior : Nat → Int32) (w_pipesIn : Nat → Int32) (w_pipe : Nat → Int32) (w_met : Nat → Int32) (w_chance : Nat → Int32) (w_rock : Nat → Int32) (w_weight : Nat → Int64) (a1 : Int32) (a2 : Int32) (o : Int32 × Int32 × (Nat → Int64)) (hsh : shX7_hope a1 a2 v_thrown v_villages w_prior w_pipesIn w_pipe w_met w_chance w_rock w_weight = some o) : CtI l yX7_hope wsX7_hope rmX7_hope D (tys3 cI cJ cZ) noE (wdX7_hope cI cJ cZ q_this q_tape q_prior q_pipesIn q_pipe q_met q_chance q_rock q_people q_bad q_well q_ends q_runs q_way q_words q_told q_weight q_days q_depth q_bestDepth q_hopes q_planOf q_planDepth v_tapeSize v_thrown v_salt v_dry v_rest v_fault v_faultPlace v_rocks v_villages v_day v_at v_allPipes v_end v_next v_kind v_which v_place v_isPlan v_planMany v_planPipes v_planDays w_prior w_pipesIn w_pipe w_met w_chance w_rock w_weight) [.ref q_this, .int a1, .int a2] o.1 (wdX7_hope cI cJ cZ q_this q_tape q_prior q_pipesIn q_pipe q_met q_chance q_rock q_people q_bad q_well q_ends q_runs q_way q_words q_told q_weight q_days q_depth q_bestDepth q_hopes q_planOf q_planDepth v_tapeSize o.2.1 v_salt v_dry v_rest v_fault v_faultPlace v_rocks v_villages v_day v_at v_allPipes v_end v_next v_kind v_which v_place v_isPlan v_planMany v_planPipes v_planDays w_prior w_pipesIn w_pipe w_met w_chance w_rock o.2.2) := by
  refine ctI plX7 rfl (Nat.le_of_ble_eq_true rfl) ?_
  intro p e s m below meth c A Q S hK hA hE hret H locs hP hD hS ls hl
  replace S : CallFix p m c cX7_hope 3 s _ wsX7_hope RX7 := S
  generalize ([.ref q_this, .int a1, .int a2] : List Value).toArray = args at S hret ⊢
  obtain ⟨hx, hb, hml, hown, hts⟩ := id S
  replace hl : lv_has ls 3 [(0, .ref q_this), (1, .int a1), (2, .int a2)] := hl
  unfold shX7_hope at hsh
  refine lv_aload_n hx hb dX7_hope_0 rfl (lv_at hl 0 rfl) ?_
  refine lv_iconst (v := (0 : Int32)) hx hb dX7_hope_1 (by decide) ?_
  refine kput (ci := 7) S hK hP hD hS rfl inX7_hope_X7 tyX7_ok nmX7 0 rfl 2 (by decide) lkX7_hope_88 rfl rfl rfl (Nat.le_of_ble_eq_true rfl) (ws' := (wdX7_hope cI cJ cZ q_this q_tape q_prior q_pipesIn q_pipe q_met q_chance q_rock q_people q_bad q_well q_ends q_runs q_way q_words q_told q_weight q_days q_depth q_bestDepth q_hopes q_planOf q_planDepth v_tapeSize (0 : Int32) v_salt v_dry v_rest v_fault v_faultPlace v_rocks v_villages v_day v_at v_allPipes v_end v_next v_kind v_which v_place v_isPlan v_planMany v_planPipes v_planDays w_prior w_pipesIn w_pipe w_met w_chance w_rock w_weight)) rfl dX7_hope_2 (fun H locs hP hD hS => ?_)
  refine lv_aload_n hx hb dX7_hope_5 rfl (lv_at hl 0 rfl) ?_
  refine lv_iload_n hx hb dX7_hope_6 rfl (lv_at hl 1 rfl) ?_
  obtain ⟨o_7, he, hsh⟩ := bd hsh
  refine kVi (ci := 7) S hK hA (ctX7_isVillage l D cI cJ cZ q_this q_tape q_prior q_pipesIn q_pipe q_met q_chance q_rock q_people q_bad q_well q_ends q_runs q_way q_words q_told q_weight q_days q_depth q_bestDepth q_hopes q_planOf q_planDepth v_tapeSize (0 : Int32) v_salt v_dry v_rest v_fault v_faultPlace v_rocks v_villages v_day v_at v_allPipes v_end v_next v_kind v_which v_place v_isPlan v_planMany v_planPipes v_planDays a1 o_7 he) noE_cl (cwV 1 hts gX7_hope_X7_isVillage rfl rfl rfl hdX7_isVillage ⟨Nat.le_of_ble_eq_true rfl, Nat.le_of_ble_eq_true rfl⟩) rfl 0 rfl [0] [1, 2, 3, 4, 5, 6, 7] [7, 0, 1, 2, 3, 4, 5, 6] (ws' := (wdX7_hope cI cJ cZ q_this q_tape q_prior q_pipesIn q_pipe q_met q_chance q_rock q_people q_bad q_well q_ends q_runs q_way q_words q_told q_weight q_days q_depth q_bestDepth q_hopes q_planOf q_planDepth v_tapeSize (0 : Int32) v_salt v_dry v_rest v_fault v_faultPlace v_rocks v_villages v_day v_at v_allPipes v_end v_next v_kind v_which v_place v_isPlan v_planMany v_planPipes v_planDays w_prior w_pipesIn w_pipe w_met w_chance w_rock w_weight)) ⟨rfl, rfl, rfl, rfl, rfl, rfl, rfl⟩ trivial rfl hl.1 rfl (Nat.le_of_ble_eq_true rfl) dX7_hope_7 hP hD hS (fun H locs hP hD hS => ?_)
  refine lv_if_eq (tgt := 23) hx hb dX7_hope_10 (by decide) (fun c1 => ?_) (fun c1 => ?_)
  · skip
    have hsh := ite_t hsh c1
    refine lv_iconst (v := (-1 : Int32)) hx hb dX7_hope_23 (by decide) ?_
    refine lv_goto (tgt := 33) hx hb dX7_hope_24 (by decide) ?_
    have ho := Option.some.inj hsh
    rw [← ho] at hret
    exact hret _ _ _ _ dX7_hope_33 hP hD hS
  · skip
    have hsh := ite_f hsh c1
    refine lv_iload_n hx hb dX7_hope_13 rfl (lv_at hl 2 rfl) ?_
    refine lv_iconst (v := (1 : Int32)) hx hb dX7_hope_14 (by decide) ?_
    refine lv_icmp_lt (tgt := 23) hx hb dX7_hope_15 (by decide) (fun c1 => ?_) (fun c1 => ?_)
    · skip
      have hsh := ite_t hsh c1
      refine lv_iconst (v := (-1 : Int32)) hx hb dX7_hope_23 (by decide) ?_
      refine lv_goto (tgt := 33) hx hb dX7_hope_24 (by decide) ?_
      have ho := Option.some.inj hsh
      rw [← ho] at hret
      exact hret _ _ _ _ dX7_hope_33 hP hD hS
    · skip
      have hsh := ite_f hsh c1
      refine lv_iload_n hx hb dX7_hope_18 rfl (lv_at hl 2 rfl) ?_
      refine lv_iconst (v := (4 : Int32)) hx hb dX7_hope_19 (by decide) ?_
      refine lv_icmp_le (tgt := 27) hx hb dX7_hope_20 (by decide) (fun c1 => ?_) (fun c1 => ?_)
      · skip
        have hsh := ite_t hsh c1
        refine lv_aload_n hx hb dX7_hope_27 rfl (lv_at hl 0 rfl) ?_
        refine lv_iload_n hx hb dX7_hope_28 rfl (lv_at hl 1 rfl) ?_
        refine lv_iload_n hx hb dX7_hope_29 rfl (lv_at hl 2 rfl) ?_
        obtain ⟨o_30, he, hsh⟩ := bd hsh
        refine kVi (ci := 7) S hK hA (ctX7_hopeOf l D cI cJ cZ q_this q_tape q_prior q_pipesIn q_pipe q_met q_chance q_rock q_people q_bad q_well q_ends q_runs q_way q_words q_told q_weight q_days q_depth q_bestDepth q_hopes q_planOf q_planDepth v_tapeSize (0 : Int32) v_salt v_dry v_rest v_fault v_faultPlace v_rocks v_villages v_day v_at v_allPipes v_end v_next v_kind v_which v_place v_isPlan v_planMany v_planPipes v_planDays w_prior w_pipesIn w_pipe w_met w_chance w_rock w_weight a1 a2 o_30 he) noE_cl (cwV 2 hts gX7_hope_X7_hopeOf rfl rfl rfl hdX7_hopeOf ⟨Nat.le_of_ble_eq_true rfl, Nat.le_of_ble_eq_true rfl⟩) rfl 0 rfl [0, 1, 2, 3, 4, 5, 6, 7] [] [0, 1, 2, 3, 4, 5, 6, 7] (ws' := (wdX7_hope cI cJ cZ q_this q_tape q_prior q_pipesIn q_pipe q_met q_chance q_rock q_people q_bad q_well q_ends q_runs q_way q_words q_told q_weight q_days q_depth q_bestDepth q_hopes q_planOf q_planDepth v_tapeSize (0 : Int32) v_salt v_dry v_rest v_fault v_faultPlace v_rocks v_villages v_day v_at v_allPipes v_end v_next v_kind v_which v_place v_isPlan v_planMany v_planPipes v_planDays w_prior w_pipesIn w_pipe w_met w_chance w_rock o_30.2)) ⟨rfl, rfl, rfl, rfl, rfl, rfl, rfl⟩ trivial rfl hl.1 rfl (Nat.le_of_ble_eq_true rfl) dX7_hope_30 hP hD hS (fun H locs hP hD hS => ?_)
        have ho := Option.some.inj hsh
        rw [← ho] at hret
        exact hret _ _ _ _ dX7_hope_33 hP hD hS
      · skip
        have hsh := ite_f hsh c1
        refine lv_iconst (v := (-1 : Int32)) hx hb dX7_hope_23 (by decide) ?_
        refine lv_goto (tgt := 33) hx hb dX7_hope_24 (by decide) ?_
        have ho := Option.some.inj hsh
        rw [← ho] at hret
        exact hret _ _ _ _ dX7_hope_33 hP hD hS

/-! DryWellsModel.far -/
noncomputable def shX7_far (a0 : Int32) (a1 : Int32) : Option (Int32) :=
  (if a0 < 0 then some (9999 : Int32) else (if a1 < (9999 : Int32) then some (a0 + a1) else some (9999 : Int32)))
def wdX7_far (cI cJ cZ : ClassId)   : va_W := []
abbrev rmX7_far : Room := { frames := 0, cells := 0, slots := 0, locals := 0 }
theorem hdX7_far : yX7_far.cls ≠ "java/lang/invoke/MethodHandle" ∧ yX7_far.cls ≠ "java/lang/invoke/VarHandle" ∧ (parseMethodDescriptor yX7_far.desc).map (fun d => d.parameters.length) = some 2 := by decide +kernel
set_option maxHeartbeats 4000000 in
set_option maxRecDepth 100000 in
theorem ctX7_far (l : Launch) (D : va_G) (cI cJ cZ : ClassId)  (a0 : Int32) (a1 : Int32) (o : Int32) (hsh : shX7_far a0 a1 = some o) : CtI l yX7_far wsX7_far rmX7_far D (tys3 cI cJ cZ) noE (wdX7_far cI cJ cZ ) [.int a0, .int a1] o (wdX7_far cI cJ cZ ) := by
  refine ctI plX7 rfl (Nat.le_of_ble_eq_true rfl) ?_
  intro p e s m below meth c A Q S hK hA hE hret H locs hP hD hS ls hl
  replace S : CallFix p m c cX7_far 2 s _ wsX7_far RX7 := S
  generalize ([.int a0, .int a1] : List Value).toArray = args at S hret ⊢
  obtain ⟨hx, hb, hml, hown, hts⟩ := id S
  replace hl : lv_has ls 2 [(0, .int a0), (1, .int a1)] := hl
  unfold shX7_far at hsh
  refine lv_iload_n hx hb dX7_far_0 rfl (lv_at hl 0 rfl) ?_
  refine lv_if_lt (tgt := 11) hx hb dX7_far_1 (by decide) (fun c1 => ?_) (fun c1 => ?_)
  · skip
    have hsh := ite_t hsh c1
    refine lv_sipush (v := (9999 : Int32)) hx hb dX7_far_11 (by decide) ?_
    refine lv_goto (tgt := 20) hx hb dX7_far_14 (by decide) ?_
    have ho := Option.some.inj hsh
    rw [← ho] at hret
    exact hret _ _ _ _ dX7_far_20 hP hD hS
  · skip
    have hsh := ite_f hsh c1
    refine lv_iload_n hx hb dX7_far_4 rfl (lv_at hl 1 rfl) ?_
    refine lv_sipush (v := (9999 : Int32)) hx hb dX7_far_5 (by decide) ?_
    refine lv_icmp_lt (tgt := 17) hx hb dX7_far_8 (by decide) (fun c1 => ?_) (fun c1 => ?_)
    · skip
      have hsh := ite_t hsh c1
      refine lv_iload_n hx hb dX7_far_17 rfl (lv_at hl 0 rfl) ?_
      refine lv_iload_n hx hb dX7_far_18 rfl (lv_at hl 1 rfl) ?_
      refine lv_iadd hx hb dX7_far_19 ?_
      have ho := Option.some.inj hsh
      rw [← ho] at hret
      exact hret _ _ _ _ dX7_far_20 hP hD hS
    · skip
      have hsh := ite_f hsh c1
      refine lv_sipush (v := (9999 : Int32)) hx hb dX7_far_11 (by decide) ?_
      refine lv_goto (tgt := 20) hx hb dX7_far_14 (by decide) ?_
      have ho := Option.some.inj hsh
      rw [← ho] at hret
      exact hret _ _ _ _ dX7_far_20 hP hD hS

/-! DryWellsModel.ways -/
noncomputable def shX7_ways_j_134 (w_days_j_134 : Nat → Int32) : Option ((Nat → Int32)) :=
  some w_days_j_134
noncomputable def shX7_ways_k2_128 (x1_2 : Int32) (w_days_k2_128 : Nat → Int32) : Option ((Int32 × (Nat → Int32)) ⊕ (((Nat → Int32)))) :=
  some (Sum.inl ((x1_2 + (1 : Int32)), w_days_k2_128))
noncomputable def shX7_ways_k11_110 (x1_2 : Int32) (x2_11 : Int32) (w_days_11 : Nat → Int32) (x3_k11_110 : Int32) : Option ((Int32 × (Nat → Int32)) ⊕ (((Nat → Int32)))) :=
  ((gd (((8 : Int32) * x1_2) + x2_11) 1024).bind fun _ => some (Sum.inl ((x2_11 + (1 : Int32)), (upd w_days_11 ((((8 : Int32) * x1_2) + x2_11)).toNatClampNeg x3_k11_110))))
noncomputable def shX7_ways_k32_104 (x4_32 : Int32) (x3_k32_104 : Int32) : Option ((Int32 × Int32) ⊕ ((Int32))) :=
  some (Sum.inl (x3_k32_104, (x4_32 + (1 : Int32))))
noncomputable def shX7_ways_k32_103 (x4_32 : Int32) (s0_k32_103 : Int32) : Option ((Int32 × Int32) ⊕ ((Int32))) :=
  (shX7_ways_k32_104 x4_32 s0_k32_103)
noncomputable def shX7_ways_L32 (w_way : Nat → Int32) (x1_2 : Int32) (x2_11 : Int32) (w_days_11 : Nat → Int32) (x3_32 : Int32) (x4_32 : Int32) : Option ((Int32 × Int32) ⊕ ((Int32))) :=
  (if (7 : Int32) < x4_32 then some (Sum.inr x3_32) else (if ¬ ((x1_2 >>> ((x4_32 - (1 : Int32)) &&& 31)) &&& (1 : Int32)) = 0 then ((gd (((8 : Int32) * x2_11) + x4_32) 64).bind fun _ => ((gd (((8 : Int32) * (x1_2 &&& (((1 : Int32) <<< ((x4_32 - (1 : Int32)) &&& 31)) ^^^ (-1 : Int32)))) + x4_32) 1024).bind fun _ => ((shX7_far (w_way ((((8 : Int32) * x2_11) + x4_32)).toNatClampNeg) (w_days_11 ((((8 : Int32) * (x1_2 &&& (((1 : Int32) <<< ((x4_32 - (1 : Int32)) &&& 31)) ^^^ (-1 : Int32)))) + x4_32)).toNatClampNeg)).bind fun o_86 => (if x3_32 ≤ o_86 then (shX7_ways_k32_103 x4_32 x3_32) else (shX7_ways_k32_103 x4_32 o_86))))) else (shX7_ways_k32_104 x4_32 x3_32)))
noncomputable def shX7_ways_k11_28 (w_way : Nat → Int32) (x1_2 : Int32) (x2_11 : Int32) (w_days_11 : Nat → Int32) (s0_k11_28 : Int32) : Option ((Int32 × (Nat → Int32)) ⊕ (((Nat → Int32)))) :=
  ((lp (fun s : Int32 × Int32 => shX7_ways_L32 w_way x1_2 x2_11 w_days_11 s.1 s.2) (s0_k11_28, (1 : Int32))).bind (fun p : Int32 => shX7_ways_k11_110 x1_2 x2_11 w_days_11 p))
noncomputable def shX7_ways_L11 (w_way : Nat → Int32) (x1_2 : Int32) (x2_11 : Int32) (w_days_11 : Nat → Int32) : Option ((Int32 × (Nat → Int32)) ⊕ (((Nat → Int32)))) :=
  (if (8 : Int32) ≤ x2_11 then some (Sum.inr w_days_11) else (if ¬ x1_2 = 0 then (shX7_ways_k11_28 w_way x1_2 x2_11 w_days_11 (9999 : Int32)) else (shX7_ways_k11_28 w_way x1_2 x2_11 w_days_11 (0 : Int32))))
noncomputable def shX7_ways_L2 (w_way : Nat → Int32) (x1_2 : Int32) (w_days_2 : Nat → Int32) : Option ((Int32 × (Nat → Int32)) ⊕ (((Nat → Int32)))) :=
  (if (128 : Int32) ≤ x1_2 then some (Sum.inr w_days_2) else ((lp (fun s : Int32 × (Nat → Int32) => shX7_ways_L11 w_way x1_2 s.1 s.2) ((0 : Int32), w_days_2)).bind (fun p : (Nat → Int32) => shX7_ways_k2_128 x1_2 p)))
noncomputable def shX7_ways (w_way : Nat → Int32) (w_days : Nat → Int32) : Option ((Nat → Int32)) :=
  ((lp (fun s : Int32 × (Nat → Int32) => shX7_ways_L2 w_way s.1 s.2) ((0 : Int32), w_days)).bind (fun p : (Nat → Int32) => shX7_ways_j_134 p))
def wdX7_ways (cI cJ cZ : ClassId) (q_this q_tape q_prior q_pipesIn q_pipe q_met q_chance q_rock q_people q_bad q_well q_ends q_runs q_way q_words q_told q_weight q_days q_depth q_bestDepth q_hopes q_planOf q_planDepth : Nat) (v_tapeSize : Int32) (v_thrown : Int32) (v_salt : Int32) (v_dry : Int32) (v_rest : Int32) (v_fault : Int32) (v_faultPlace : Int32) (v_rocks : Int32) (v_villages : Int32) (v_day : Int32) (v_at : Int32) (v_allPipes : Int32) (v_end : Int32) (v_next : Int32) (v_kind : Int32) (v_which : Int32) (v_place : Int32) (v_isPlan : Int32) (v_planMany : Int32) (v_planPipes : Int32) (v_planDays : Int32) (w_way : Nat → Int32) (w_days : Nat → Int32) : va_W := [(q_this, .inr (7, [.ref q_tape, .int v_tapeSize, .int v_thrown, .int v_salt, .int v_dry, .int v_rest, .int v_fault, .int v_faultPlace, .int v_rocks, .ref q_prior, .ref q_pipesIn, .ref q_pipe, .ref q_met, .ref q_chance, .int v_villages, .ref q_rock, .ref q_people, .ref q_bad, .ref q_well, .ref q_ends, .ref q_runs, .ref q_way, .int v_day, .int v_at, .int v_allPipes, .ref q_words, .int v_end, .int v_next, .int v_kind, .int v_which, .int v_place, .ref q_told, .ref q_weight, .ref q_days, .ref q_depth, .ref q_bestDepth, .ref q_hopes, .int v_isPlan, .int v_planMany, .int v_planPipes, .int v_planDays, .ref q_planOf, .ref q_planDepth])), (q_way, .inl (cI, 64, .inl w_way)), (q_days, .inl (cI, 1024, .inl w_days))]
abbrev rmX7_ways : Room := { frames := 1, cells := 0, slots := 0, locals := 21 }
theorem inX7_ways_X7 : ∀ w ∈ u_ws RX7 TX7 43, w ∈ wsX7_ways := fun _ h => List.mem_cons_of_mem _ (List.mem_append_right _ h)
theorem lkX7_ways_70 : Cond.fieldLink RX7 70 (TX7 33).1 (TX7 33).2.1 (TX7 33).2.2.1 ∈ wsX7_ways := List.mem_of_getElem? (i := 2) rfl
theorem lkX7_ways_57 : Cond.fieldLink RX7 57 (TX7 21).1 (TX7 21).2.1 (TX7 21).2.2.1 ∈ wsX7_ways := List.mem_of_getElem? (i := 1) rfl
theorem hdX7_ways : yX7_ways.cls = RX7 ∧ yX7_ways.cls ≠ "java/lang/invoke/MethodHandle" ∧ yX7_ways.cls ≠ "java/lang/invoke/VarHandle" ∧ (parseMethodDescriptor yX7_ways.desc).map (fun d => d.parameters.length) = some 0 := by decide +kernel
set_option maxHeartbeats 4000000 in
set_option maxRecDepth 100000 in
theorem ctX7_ways (l : Launch) (D : va_G) (cI cJ cZ : ClassId) (q_this q_tape q_prior q_pipesIn q_pipe q_met q_chance q_rock q_people q_bad q_well q_ends q_runs q_way q_words q_told q_weight q_days q_depth q_bestDepth q_hopes q_planOf q_planDepth : Nat) (v_tapeSize : Int32) (v_thrown : Int32) (v_salt : Int32) (v_dry : Int32) (v_rest : Int32) (v_fault : Int32) (v_faultPlace : Int32) (v_rocks : Int32) (v_villages : Int32) (v_day : Int32) (v_at : Int32) (v_allPipes : Int32) (v_end : Int32) (v_next : Int32) (v_kind : Int32) (v_which : Int32) (v_place : Int32) (v_isPlan : Int32) (v_planMany : Int32) (v_planPipes : Int32) (v_planDays : Int32) (w_way : Nat → Int32) (w_days : Nat → Int32)  (o : (Nat → Int32)) (hsh : shX7_ways w_way w_days = some o) : CtV l yX7_ways wsX7_ways rmX7_ways D (tys3 cI cJ cZ) noE (wdX7_ways cI cJ cZ q_this q_tape q_prior q_pipesIn q_pipe q_met q_chance q_rock q_people q_bad q_well q_ends q_runs q_way q_words q_told q_weight q_days q_depth q_bestDepth q_hopes q_planOf q_planDepth v_tapeSize v_thrown v_salt v_dry v_rest v_fault v_faultPlace v_rocks v_villages v_day v_at v_allPipes v_end v_next v_kind v_which v_place v_isPlan v_planMany v_planPipes v_planDays w_way w_days) [.ref q_this]  (wdX7_ways cI cJ cZ q_this q_tape q_prior q_pipesIn q_pipe q_met q_chance q_rock q_people q_bad q_well q_ends q_runs q_way q_words q_told q_weight q_days q_depth q_bestDepth q_hopes q_planOf q_planDepth v_tapeSize v_thrown v_salt v_dry v_rest v_fault v_faultPlace v_rocks v_villages v_day v_at v_allPipes v_end v_next v_kind v_which v_place v_isPlan v_planMany v_planPipes v_planDays w_way o) := by
  refine ctV plX7 rfl (Nat.le_of_ble_eq_true rfl) ?_
  intro p e s m below meth c A Q S hK hA hE hret H locs hP hD hS ls hl
  replace S : CallFix p m c cX7_ways 6 s _ wsX7_ways RX7 := S
  generalize ([.ref q_this] : List Value).toArray = args at S hret ⊢
  obtain ⟨hx, hb, hml, hown, hts⟩ := id S
  replace hl : lv_has ls 6 [(0, .ref q_this)] := hl
  unfold shX7_ways at hsh
  have Jj_134 : ∀ (w_days_j_134 : Nat → Int32) (H : Heap) (locs : List Loc), va_P D vwCl (wdX7_ways cI cJ cZ q_this q_tape q_prior q_pipesIn q_pipe q_met q_chance q_rock q_people q_bad q_well q_ends q_runs q_way q_words q_told q_weight q_days q_depth q_bestDepth q_hopes q_planOf q_planDepth v_tapeSize v_thrown v_salt v_dry v_rest v_fault v_faultPlace v_rocks v_villages v_day v_at v_allPipes v_end v_next v_kind v_which v_place v_isPlan v_planMany v_planPipes v_planDays w_way w_days_j_134) H → va_D A (wdX7_ways cI cJ cZ q_this q_tape q_prior q_pipesIn q_pipe q_met q_chance q_rock q_people q_bad q_well q_ends q_runs q_way q_words q_told q_weight q_days q_depth q_bestDepth q_hopes q_planOf q_planDepth v_tapeSize v_thrown v_salt v_dry v_rest v_fault v_faultPlace v_rocks v_villages v_day v_at v_allPipes v_end v_next v_kind v_which v_place v_isPlan v_planMany v_planPipes v_planDays w_way w_days_j_134) → va_S A s.heap H locs → ∀ ls : Array Slot, lv_has ls 6 [] → shX7_ways_j_134 w_days_j_134 = some o → W p l e rmX7_ways s m args below meth c H locs 0 0 Q (F0 m 134 ls []) := by
    intro w_days_j_134 H locs hP hD hS ls hl hsh
    unfold shX7_ways_j_134 at hsh
    have ho := Option.some.inj hsh
    rw [← ho] at hret
    exact hret _ _ _ _ dX7_ways_134 hP hD hS
  refine lv_iconst (v := (0 : Int32)) hx hb dX7_ways_0 (by decide) ?_
  refine lv_istore_n (lv' := [(1, .int (0 : Int32)), (0, .ref q_this)]) hx hb dX7_ways_1 rfl hl (by decide) rfl (fun ls hl => ?_)
  obtain ⟨r_2, hl_2, hk_2⟩ := bd hsh
  obtain ⟨n_2, hn_2⟩ := lp_iff.mp hl_2
  have L_2 : ∀ (n : Nat) (x1_2 : Int32) (w_days_2 : Nat → Int32) (H : Heap) (locs : List Loc), va_P D vwCl (wdX7_ways cI cJ cZ q_this q_tape q_prior q_pipesIn q_pipe q_met q_chance q_rock q_people q_bad q_well q_ends q_runs q_way q_words q_told q_weight q_days q_depth q_bestDepth q_hopes q_planOf q_planDepth v_tapeSize v_thrown v_salt v_dry v_rest v_fault v_faultPlace v_rocks v_villages v_day v_at v_allPipes v_end v_next v_kind v_which v_place v_isPlan v_planMany v_planPipes v_planDays w_way w_days_2) H → va_D A (wdX7_ways cI cJ cZ q_this q_tape q_prior q_pipesIn q_pipe q_met q_chance q_rock q_people q_bad q_well q_ends q_runs q_way q_words q_told q_weight q_days q_depth q_bestDepth q_hopes q_planOf q_planDepth v_tapeSize v_thrown v_salt v_dry v_rest v_fault v_faultPlace v_rocks v_villages v_day v_at v_allPipes v_end v_next v_kind v_which v_place v_isPlan v_planMany v_planPipes v_planDays w_way w_days_2) → va_S A s.heap H locs → ∀ ls : Array Slot, lv_has ls 6 [(0, .ref q_this), (1, .int x1_2)] → it (fun s : Int32 × (Nat → Int32) => shX7_ways_L2 w_way s.1 s.2) n (x1_2, w_days_2) = some r_2 → W p l e rmX7_ways s m args below meth c H locs 0 0 Q (F0 m 2 ls []) := by
    intro n
    induction n with
    | zero => exact fun _ _ _ _ _ _ _ _ _ hi => it_0 hi
    | succ n ih_2 =>
      intro x1_2 w_days_2 H locs hP hD hS ls hl hi
      obtain ⟨b_2, hsh, hB1_2, hB2_2⟩ := it_b hi
      replace hsh : shX7_ways_L2 w_way x1_2 w_days_2 = some b_2 := hsh
      unfold shX7_ways_L2 at hsh
      have Jk2_128 : ∀ (w_days_k2_128 : Nat → Int32) (H : Heap) (locs : List Loc), va_P D vwCl (wdX7_ways cI cJ cZ q_this q_tape q_prior q_pipesIn q_pipe q_met q_chance q_rock q_people q_bad q_well q_ends q_runs q_way q_words q_told q_weight q_days q_depth q_bestDepth q_hopes q_planOf q_planDepth v_tapeSize v_thrown v_salt v_dry v_rest v_fault v_faultPlace v_rocks v_villages v_day v_at v_allPipes v_end v_next v_kind v_which v_place v_isPlan v_planMany v_planPipes v_planDays w_way w_days_k2_128) H → va_D A (wdX7_ways cI cJ cZ q_this q_tape q_prior q_pipesIn q_pipe q_met q_chance q_rock q_people q_bad q_well q_ends q_runs q_way q_words q_told q_weight q_days q_depth q_bestDepth q_hopes q_planOf q_planDepth v_tapeSize v_thrown v_salt v_dry v_rest v_fault v_faultPlace v_rocks v_villages v_day v_at v_allPipes v_end v_next v_kind v_which v_place v_isPlan v_planMany v_planPipes v_planDays w_way w_days_k2_128) → va_S A s.heap H locs → ∀ ls : Array Slot, lv_has ls 6 [(0, .ref q_this), (1, .int x1_2)] → shX7_ways_k2_128 x1_2 w_days_k2_128 = some b_2 → W p l e rmX7_ways s m args below meth c H locs 0 0 Q (F0 m 128 ls []) := by
        intro w_days_k2_128 H locs hP hD hS ls hl hsh
        unfold shX7_ways_k2_128 at hsh
        refine lv_iinc (v := (x1_2 + (1 : Int32))) (lv' := [(1, .int (x1_2 + (1 : Int32))), (0, .ref q_this)]) hx hb dX7_ways_128 hl (k := 1) rfl (congrArg (fun z : Int32 => x1_2 + z) (by decide)) (by decide) rfl (fun ls hl => ?_)
        refine lv_goto (tgt := 2) hx hb dX7_ways_131 (by decide) ?_
        exact ih_2 (x1_2 + (1 : Int32)) w_days_k2_128 H locs hP hD hS ls (lv_sub hl [1, 0] rfl) (hB1_2 _ hsh)
      refine lv_iload_n hx hb dX7_ways_2 rfl (lv_at hl 1 rfl) ?_
      refine lv_sipush (v := (128 : Int32)) hx hb dX7_ways_3 (by decide) ?_
      refine lv_icmp_ge (tgt := 134) hx hb dX7_ways_6 (by decide) (fun c1 => ?_) (fun c1 => ?_)
      · skip
        have hsh := ite_t hsh c1
        have he := hB2_2 _ hsh
        rw [← he] at hk_2
        exact Jj_134 w_days_2 H locs hP hD hS ls (lv_sub hl [] rfl) hk_2
      · skip
        have hsh := ite_f hsh c1
        refine lv_iconst (v := (0 : Int32)) hx hb dX7_ways_9 (by decide) ?_
        refine lv_istore_n (lv' := [(2, .int (0 : Int32)), (0, .ref q_this), (1, .int x1_2)]) hx hb dX7_ways_10 rfl hl (by decide) rfl (fun ls hl => ?_)
        obtain ⟨r_11, hl_11, hk_11⟩ := bd hsh
        obtain ⟨n_11, hn_11⟩ := lp_iff.mp hl_11
        have L_11 : ∀ (n : Nat) (x2_11 : Int32) (w_days_11 : Nat → Int32) (H : Heap) (locs : List Loc), va_P D vwCl (wdX7_ways cI cJ cZ q_this q_tape q_prior q_pipesIn q_pipe q_met q_chance q_rock q_people q_bad q_well q_ends q_runs q_way q_words q_told q_weight q_days q_depth q_bestDepth q_hopes q_planOf q_planDepth v_tapeSize v_thrown v_salt v_dry v_rest v_fault v_faultPlace v_rocks v_villages v_day v_at v_allPipes v_end v_next v_kind v_which v_place v_isPlan v_planMany v_planPipes v_planDays w_way w_days_11) H → va_D A (wdX7_ways cI cJ cZ q_this q_tape q_prior q_pipesIn q_pipe q_met q_chance q_rock q_people q_bad q_well q_ends q_runs q_way q_words q_told q_weight q_days q_depth q_bestDepth q_hopes q_planOf q_planDepth v_tapeSize v_thrown v_salt v_dry v_rest v_fault v_faultPlace v_rocks v_villages v_day v_at v_allPipes v_end v_next v_kind v_which v_place v_isPlan v_planMany v_planPipes v_planDays w_way w_days_11) → va_S A s.heap H locs → ∀ ls : Array Slot, lv_has ls 6 [(0, .ref q_this), (1, .int x1_2), (2, .int x2_11)] → it (fun s : Int32 × (Nat → Int32) => shX7_ways_L11 w_way x1_2 s.1 s.2) n (x2_11, w_days_11) = some r_11 → W p l e rmX7_ways s m args below meth c H locs 0 0 Q (F0 m 11 ls []) := by
          intro n
          induction n with
          | zero => exact fun _ _ _ _ _ _ _ _ _ hi => it_0 hi
          | succ n ih_11 =>
            intro x2_11 w_days_11 H locs hP hD hS ls hl hi
            obtain ⟨b_11, hsh, hB1_11, hB2_11⟩ := it_b hi
            replace hsh : shX7_ways_L11 w_way x1_2 x2_11 w_days_11 = some b_11 := hsh
            unfold shX7_ways_L11 at hsh
            have Jk11_110 : ∀ (x3_k11_110 : Int32) (H : Heap) (locs : List Loc), va_P D vwCl (wdX7_ways cI cJ cZ q_this q_tape q_prior q_pipesIn q_pipe q_met q_chance q_rock q_people q_bad q_well q_ends q_runs q_way q_words q_told q_weight q_days q_depth q_bestDepth q_hopes q_planOf q_planDepth v_tapeSize v_thrown v_salt v_dry v_rest v_fault v_faultPlace v_rocks v_villages v_day v_at v_allPipes v_end v_next v_kind v_which v_place v_isPlan v_planMany v_planPipes v_planDays w_way w_days_11) H → va_D A (wdX7_ways cI cJ cZ q_this q_tape q_prior q_pipesIn q_pipe q_met q_chance q_rock q_people q_bad q_well q_ends q_runs q_way q_words q_told q_weight q_days q_depth q_bestDepth q_hopes q_planOf q_planDepth v_tapeSize v_thrown v_salt v_dry v_rest v_fault v_faultPlace v_rocks v_villages v_day v_at v_allPipes v_end v_next v_kind v_which v_place v_isPlan v_planMany v_planPipes v_planDays w_way w_days_11) → va_S A s.heap H locs → ∀ ls : Array Slot, lv_has ls 6 [(0, .ref q_this), (1, .int x1_2), (2, .int x2_11), (3, .int x3_k11_110)] → shX7_ways_k11_110 x1_2 x2_11 w_days_11 x3_k11_110 = some b_11 → W p l e rmX7_ways s m args below meth c H locs 0 0 Q (F0 m 110 ls []) := by
              intro x3_k11_110 H locs hP hD hS ls hl hsh
              unfold shX7_ways_k11_110 at hsh
              refine lv_aload_n hx hb dX7_ways_110 rfl (lv_at hl 0 rfl) ?_
              refine kget (ci := 7) S hK hP rfl inX7_ways_X7 0 rfl 33 (by decide) lkX7_ways_70 rfl dX7_ways_111 ?_
              refine lv_bipush (v := (8 : Int32)) hx hb dX7_ways_114 (by decide) ?_
              refine lv_iload_n hx hb dX7_ways_116 rfl (lv_at hl 1 rfl) ?_
              refine lv_imul hx hb dX7_ways_117 ?_
              refine lv_iload_n hx hb dX7_ways_118 rfl (lv_at hl 2 rfl) ?_
              refine lv_iadd hx hb dX7_ways_119 ?_
              refine lv_iload_n hx hb dX7_ways_120 rfl (lv_at hl 3 rfl) ?_
              obtain ⟨_, hg, hsh⟩ := bd hsh
              refine kias S hK hP hD hS 2 0 rfl rfl (gd_in hg) (ws' := (wdX7_ways cI cJ cZ q_this q_tape q_prior q_pipesIn q_pipe q_met q_chance q_rock q_people q_bad q_well q_ends q_runs q_way q_words q_told q_weight q_days q_depth q_bestDepth q_hopes q_planOf q_planDepth v_tapeSize v_thrown v_salt v_dry v_rest v_fault v_faultPlace v_rocks v_villages v_day v_at v_allPipes v_end v_next v_kind v_which v_place v_isPlan v_planMany v_planPipes v_planDays w_way (upd w_days_11 ((((8 : Int32) * x1_2) + x2_11)).toNatClampNeg x3_k11_110))) rfl dX7_ways_121 (fun H locs hP hD hS => ?_)
              refine lv_iinc (v := (x2_11 + (1 : Int32))) (lv' := [(2, .int (x2_11 + (1 : Int32))), (0, .ref q_this), (1, .int x1_2), (3, .int x3_k11_110)]) hx hb dX7_ways_122 hl (k := 2) rfl (congrArg (fun z : Int32 => x2_11 + z) (by decide)) (by decide) rfl (fun ls hl => ?_)
              refine lv_goto (tgt := 11) hx hb dX7_ways_125 (by decide) ?_
              exact ih_11 (x2_11 + (1 : Int32)) (upd w_days_11 ((((8 : Int32) * x1_2) + x2_11)).toNatClampNeg x3_k11_110) H locs hP hD hS ls (lv_sub hl [1, 2, 0] rfl) (hB1_11 _ hsh)
            have Jk11_28 : ∀ (s0_k11_28 : Int32) (H : Heap) (locs : List Loc), va_P D vwCl (wdX7_ways cI cJ cZ q_this q_tape q_prior q_pipesIn q_pipe q_met q_chance q_rock q_people q_bad q_well q_ends q_runs q_way q_words q_told q_weight q_days q_depth q_bestDepth q_hopes q_planOf q_planDepth v_tapeSize v_thrown v_salt v_dry v_rest v_fault v_faultPlace v_rocks v_villages v_day v_at v_allPipes v_end v_next v_kind v_which v_place v_isPlan v_planMany v_planPipes v_planDays w_way w_days_11) H → va_D A (wdX7_ways cI cJ cZ q_this q_tape q_prior q_pipesIn q_pipe q_met q_chance q_rock q_people q_bad q_well q_ends q_runs q_way q_words q_told q_weight q_days q_depth q_bestDepth q_hopes q_planOf q_planDepth v_tapeSize v_thrown v_salt v_dry v_rest v_fault v_faultPlace v_rocks v_villages v_day v_at v_allPipes v_end v_next v_kind v_which v_place v_isPlan v_planMany v_planPipes v_planDays w_way w_days_11) → va_S A s.heap H locs → ∀ ls : Array Slot, lv_has ls 6 [(0, .ref q_this), (1, .int x1_2), (2, .int x2_11)] → shX7_ways_k11_28 w_way x1_2 x2_11 w_days_11 s0_k11_28 = some b_11 → W p l e rmX7_ways s m args below meth c H locs 0 0 Q (F0 m 28 ls [.int s0_k11_28]) := by
              intro s0_k11_28 H locs hP hD hS ls hl hsh
              unfold shX7_ways_k11_28 at hsh
              refine lv_istore_n (lv' := [(3, .int s0_k11_28), (0, .ref q_this), (1, .int x1_2), (2, .int x2_11)]) hx hb dX7_ways_28 rfl hl (by decide) rfl (fun ls hl => ?_)
              refine lv_iconst (v := (1 : Int32)) hx hb dX7_ways_29 (by decide) ?_
              refine lv_istore (lv' := [(4, .int (1 : Int32)), (3, .int s0_k11_28), (0, .ref q_this), (1, .int x1_2), (2, .int x2_11)]) hx hb dX7_ways_30 hl (by decide) rfl (fun ls hl => ?_)
              obtain ⟨r_32, hl_32, hk_32⟩ := bd hsh
              obtain ⟨n_32, hn_32⟩ := lp_iff.mp hl_32
              have L_32 : ∀ (n : Nat) (x3_32 : Int32) (x4_32 : Int32) (H : Heap) (locs : List Loc), va_P D vwCl (wdX7_ways cI cJ cZ q_this q_tape q_prior q_pipesIn q_pipe q_met q_chance q_rock q_people q_bad q_well q_ends q_runs q_way q_words q_told q_weight q_days q_depth q_bestDepth q_hopes q_planOf q_planDepth v_tapeSize v_thrown v_salt v_dry v_rest v_fault v_faultPlace v_rocks v_villages v_day v_at v_allPipes v_end v_next v_kind v_which v_place v_isPlan v_planMany v_planPipes v_planDays w_way w_days_11) H → va_D A (wdX7_ways cI cJ cZ q_this q_tape q_prior q_pipesIn q_pipe q_met q_chance q_rock q_people q_bad q_well q_ends q_runs q_way q_words q_told q_weight q_days q_depth q_bestDepth q_hopes q_planOf q_planDepth v_tapeSize v_thrown v_salt v_dry v_rest v_fault v_faultPlace v_rocks v_villages v_day v_at v_allPipes v_end v_next v_kind v_which v_place v_isPlan v_planMany v_planPipes v_planDays w_way w_days_11) → va_S A s.heap H locs → ∀ ls : Array Slot, lv_has ls 6 [(0, .ref q_this), (1, .int x1_2), (2, .int x2_11), (3, .int x3_32), (4, .int x4_32)] → it (fun s : Int32 × Int32 => shX7_ways_L32 w_way x1_2 x2_11 w_days_11 s.1 s.2) n (x3_32, x4_32) = some r_32 → W p l e rmX7_ways s m args below meth c H locs 0 0 Q (F0 m 32 ls []) := by
                intro n
                induction n with
                | zero => exact fun _ _ _ _ _ _ _ _ _ hi => it_0 hi
                | succ n ih_32 =>
                  intro x3_32 x4_32 H locs hP hD hS ls hl hi
                  obtain ⟨b_32, hsh, hB1_32, hB2_32⟩ := it_b hi
                  replace hsh : shX7_ways_L32 w_way x1_2 x2_11 w_days_11 x3_32 x4_32 = some b_32 := hsh
                  unfold shX7_ways_L32 at hsh
                  have Jk32_104 : ∀ (x3_k32_104 : Int32) (H : Heap) (locs : List Loc), va_P D vwCl (wdX7_ways cI cJ cZ q_this q_tape q_prior q_pipesIn q_pipe q_met q_chance q_rock q_people q_bad q_well q_ends q_runs q_way q_words q_told q_weight q_days q_depth q_bestDepth q_hopes q_planOf q_planDepth v_tapeSize v_thrown v_salt v_dry v_rest v_fault v_faultPlace v_rocks v_villages v_day v_at v_allPipes v_end v_next v_kind v_which v_place v_isPlan v_planMany v_planPipes v_planDays w_way w_days_11) H → va_D A (wdX7_ways cI cJ cZ q_this q_tape q_prior q_pipesIn q_pipe q_met q_chance q_rock q_people q_bad q_well q_ends q_runs q_way q_words q_told q_weight q_days q_depth q_bestDepth q_hopes q_planOf q_planDepth v_tapeSize v_thrown v_salt v_dry v_rest v_fault v_faultPlace v_rocks v_villages v_day v_at v_allPipes v_end v_next v_kind v_which v_place v_isPlan v_planMany v_planPipes v_planDays w_way w_days_11) → va_S A s.heap H locs → ∀ ls : Array Slot, lv_has ls 6 [(0, .ref q_this), (1, .int x1_2), (2, .int x2_11), (3, .int x3_k32_104), (4, .int x4_32)] → shX7_ways_k32_104 x4_32 x3_k32_104 = some b_32 → W p l e rmX7_ways s m args below meth c H locs 0 0 Q (F0 m 104 ls []) := by
                    intro x3_k32_104 H locs hP hD hS ls hl hsh
                    unfold shX7_ways_k32_104 at hsh
                    refine lv_iinc (v := (x4_32 + (1 : Int32))) (lv' := [(4, .int (x4_32 + (1 : Int32))), (0, .ref q_this), (1, .int x1_2), (2, .int x2_11), (3, .int x3_k32_104)]) hx hb dX7_ways_104 hl (k := 4) rfl (congrArg (fun z : Int32 => x4_32 + z) (by decide)) (by decide) rfl (fun ls hl => ?_)
                    refine lv_goto (tgt := 32) hx hb dX7_ways_107 (by decide) ?_
                    exact ih_32 x3_k32_104 (x4_32 + (1 : Int32)) H locs hP hD hS ls (lv_sub hl [1, 2, 3, 4, 0] rfl) (hB1_32 _ hsh)
                  have Jk32_103 : ∀ (s0_k32_103 : Int32) (H : Heap) (locs : List Loc), va_P D vwCl (wdX7_ways cI cJ cZ q_this q_tape q_prior q_pipesIn q_pipe q_met q_chance q_rock q_people q_bad q_well q_ends q_runs q_way q_words q_told q_weight q_days q_depth q_bestDepth q_hopes q_planOf q_planDepth v_tapeSize v_thrown v_salt v_dry v_rest v_fault v_faultPlace v_rocks v_villages v_day v_at v_allPipes v_end v_next v_kind v_which v_place v_isPlan v_planMany v_planPipes v_planDays w_way w_days_11) H → va_D A (wdX7_ways cI cJ cZ q_this q_tape q_prior q_pipesIn q_pipe q_met q_chance q_rock q_people q_bad q_well q_ends q_runs q_way q_words q_told q_weight q_days q_depth q_bestDepth q_hopes q_planOf q_planDepth v_tapeSize v_thrown v_salt v_dry v_rest v_fault v_faultPlace v_rocks v_villages v_day v_at v_allPipes v_end v_next v_kind v_which v_place v_isPlan v_planMany v_planPipes v_planDays w_way w_days_11) → va_S A s.heap H locs → ∀ ls : Array Slot, lv_has ls 6 [(0, .ref q_this), (1, .int x1_2), (2, .int x2_11), (4, .int x4_32)] → shX7_ways_k32_103 x4_32 s0_k32_103 = some b_32 → W p l e rmX7_ways s m args below meth c H locs 0 0 Q (F0 m 103 ls [.int s0_k32_103]) := by
                    intro s0_k32_103 H locs hP hD hS ls hl hsh
                    unfold shX7_ways_k32_103 at hsh
                    refine lv_istore_n (lv' := [(3, .int s0_k32_103), (0, .ref q_this), (1, .int x1_2), (2, .int x2_11), (4, .int x4_32)]) hx hb dX7_ways_103 rfl hl (by decide) rfl (fun ls hl => ?_)
                    exact Jk32_104 s0_k32_103 H locs hP hD hS ls (lv_sub hl [1, 2, 3, 0, 4] rfl) hsh
                  refine lv_iload hx hb dX7_ways_32 (lv_at hl 4 rfl) ?_
                  refine lv_bipush (v := (7 : Int32)) hx hb dX7_ways_34 (by decide) ?_
                  refine lv_icmp_gt (tgt := 110) hx hb dX7_ways_36 (by decide) (fun c1 => ?_) (fun c1 => ?_)
                  · skip
                    have hsh := ite_t hsh c1
                    have he := hB2_32 _ hsh
                    rw [← he] at hk_32
                    exact Jk11_110 x3_32 H locs hP hD hS ls (lv_sub hl [0, 1, 2, 3] rfl) hk_32
                  · skip
                    have hsh := ite_f hsh c1
                    refine lv_iload_n hx hb dX7_ways_39 rfl (lv_at hl 1 rfl) ?_
                    refine lv_iload hx hb dX7_ways_40 (lv_at hl 4 rfl) ?_
                    refine lv_iconst (v := (1 : Int32)) hx hb dX7_ways_42 (by decide) ?_
                    refine lv_isub hx hb dX7_ways_43 ?_
                    refine lv_ishr hx hb dX7_ways_44 ?_
                    refine lv_iconst (v := (1 : Int32)) hx hb dX7_ways_45 (by decide) ?_
                    refine lv_iand hx hb dX7_ways_46 ?_
                    refine lv_if_ne (tgt := 53) hx hb dX7_ways_47 (by decide) (fun c1 => ?_) (fun c1 => ?_)
                    · skip
                      have hsh := ite_t hsh c1
                      refine lv_aload_n hx hb dX7_ways_53 rfl (lv_at hl 0 rfl) ?_
                      refine kget (ci := 7) S hK hP rfl inX7_ways_X7 0 rfl 21 (by decide) lkX7_ways_57 rfl dX7_ways_54 ?_
                      refine lv_bipush (v := (8 : Int32)) hx hb dX7_ways_57 (by decide) ?_
                      refine lv_iload_n hx hb dX7_ways_59 rfl (lv_at hl 2 rfl) ?_
                      refine lv_imul hx hb dX7_ways_60 ?_
                      refine lv_iload hx hb dX7_ways_61 (lv_at hl 4 rfl) ?_
                      refine lv_iadd hx hb dX7_ways_63 ?_
                      obtain ⟨_, hg, hsh⟩ := bd hsh
                      refine kial S hK hP 1 0 rfl rfl (gd_in hg) dX7_ways_64 ?_
                      refine lv_aload_n hx hb dX7_ways_65 rfl (lv_at hl 0 rfl) ?_
                      refine kget (ci := 7) S hK hP rfl inX7_ways_X7 0 rfl 33 (by decide) lkX7_ways_70 rfl dX7_ways_66 ?_
                      refine lv_bipush (v := (8 : Int32)) hx hb dX7_ways_69 (by decide) ?_
                      refine lv_iload_n hx hb dX7_ways_71 rfl (lv_at hl 1 rfl) ?_
                      refine lv_iconst (v := (1 : Int32)) hx hb dX7_ways_72 (by decide) ?_
                      refine lv_iload hx hb dX7_ways_73 (lv_at hl 4 rfl) ?_
                      refine lv_iconst (v := (1 : Int32)) hx hb dX7_ways_75 (by decide) ?_
                      refine lv_isub hx hb dX7_ways_76 ?_
                      refine lv_ishl hx hb dX7_ways_77 ?_
                      refine lv_iconst (v := (-1 : Int32)) hx hb dX7_ways_78 (by decide) ?_
                      refine lv_ixor hx hb dX7_ways_79 ?_
                      refine lv_iand hx hb dX7_ways_80 ?_
                      refine lv_imul hx hb dX7_ways_81 ?_
                      refine lv_iload hx hb dX7_ways_82 (lv_at hl 4 rfl) ?_
                      refine lv_iadd hx hb dX7_ways_84 ?_
                      obtain ⟨_, hg, hsh⟩ := bd hsh
                      refine kial S hK hP 2 0 rfl rfl (gd_in hg) dX7_ways_85 ?_
                      obtain ⟨o_86, he, hsh⟩ := bd hsh
                      refine kSi S hK hA (ctX7_far l D cI cJ cZ (w_way ((((8 : Int32) * x2_11) + x4_32)).toNatClampNeg) (w_days_11 ((((8 : Int32) * (x1_2 &&& (((1 : Int32) <<< ((x4_32 - (1 : Int32)) &&& 31)) ^^^ (-1 : Int32)))) + x4_32)).toNatClampNeg) o_86 he) noE_cl (va_cwS 2 hts gX7_ways_X7_far rfl rfl rfl hdX7_far ⟨Nat.le_of_ble_eq_true rfl, Nat.le_of_ble_eq_true rfl⟩) [] [0, 1, 2] [0, 1, 2] (ws' := (wdX7_ways cI cJ cZ q_this q_tape q_prior q_pipesIn q_pipe q_met q_chance q_rock q_people q_bad q_well q_ends q_runs q_way q_words q_told q_weight q_days q_depth q_bestDepth q_hopes q_planOf q_planDepth v_tapeSize v_thrown v_salt v_dry v_rest v_fault v_faultPlace v_rocks v_villages v_day v_at v_allPipes v_end v_next v_kind v_which v_place v_isPlan v_planMany v_planPipes v_planDays w_way w_days_11)) ⟨rfl, rfl, rfl, rfl, rfl, rfl, rfl⟩ trivial rfl hl.1 rfl (Nat.le_of_ble_eq_true rfl) dX7_ways_86 hP hD hS (fun H locs hP hD hS => ?_)
                      refine lv_istore (lv' := [(5, .int o_86), (0, .ref q_this), (1, .int x1_2), (2, .int x2_11), (3, .int x3_32), (4, .int x4_32)]) hx hb dX7_ways_89 hl (by decide) rfl (fun ls hl => ?_)
                      refine lv_iload hx hb dX7_ways_91 (lv_at hl 0 rfl) ?_
                      refine lv_iload_n hx hb dX7_ways_93 rfl (lv_at hl 4 rfl) ?_
                      refine lv_icmp_ge (tgt := 102) hx hb dX7_ways_94 (by decide) (fun c1 => ?_) (fun c1 => ?_)
                      · skip
                        have hsh := ite_t hsh c1
                        refine lv_iload_n hx hb dX7_ways_102 rfl (lv_at hl 4 rfl) ?_
                        exact Jk32_103 x3_32 H locs hP hD hS ls (lv_sub hl [1, 2, 3, 5] rfl) hsh
                      · skip
                        have hsh := ite_f hsh c1
                        refine lv_iload hx hb dX7_ways_97 (lv_at hl 0 rfl) ?_
                        refine lv_goto (tgt := 103) hx hb dX7_ways_99 (by decide) ?_
                        exact Jk32_103 o_86 H locs hP hD hS ls (lv_sub hl [1, 2, 3, 5] rfl) hsh
                    · skip
                      have hsh := ite_f hsh (fun h => h c1)
                      refine lv_goto (tgt := 104) hx hb dX7_ways_50 (by decide) ?_
                      exact Jk32_104 x3_32 H locs hP hD hS ls (lv_sub hl [0, 1, 2, 3, 4] rfl) hsh
              exact L_32 n_32 s0_k11_28 (1 : Int32) H locs hP hD hS ls (lv_sub hl [2, 3, 4, 1, 0] rfl) hn_32
            refine lv_iload_n hx hb dX7_ways_11 rfl (lv_at hl 2 rfl) ?_
            refine lv_bipush (v := (8 : Int32)) hx hb dX7_ways_12 (by decide) ?_
            refine lv_icmp_ge (tgt := 128) hx hb dX7_ways_14 (by decide) (fun c1 => ?_) (fun c1 => ?_)
            · skip
              have hsh := ite_t hsh c1
              have he := hB2_11 _ hsh
              rw [← he] at hk_11
              exact Jk2_128 w_days_11 H locs hP hD hS ls (lv_sub hl [0, 1] rfl) hk_11
            · skip
              have hsh := ite_f hsh c1
              refine lv_iload_n hx hb dX7_ways_17 rfl (lv_at hl 1 rfl) ?_
              refine lv_if_ne (tgt := 25) hx hb dX7_ways_18 (by decide) (fun c1 => ?_) (fun c1 => ?_)
              · skip
                have hsh := ite_t hsh c1
                refine lv_sipush (v := (9999 : Int32)) hx hb dX7_ways_25 (by decide) ?_
                exact Jk11_28 (9999 : Int32) H locs hP hD hS ls (lv_sub hl [0, 1, 2] rfl) hsh
              · skip
                have hsh := ite_f hsh (fun h => h c1)
                refine lv_iconst (v := (0 : Int32)) hx hb dX7_ways_21 (by decide) ?_
                refine lv_goto (tgt := 28) hx hb dX7_ways_22 (by decide) ?_
                exact Jk11_28 (0 : Int32) H locs hP hD hS ls (lv_sub hl [0, 1, 2] rfl) hsh
        exact L_11 n_11 (0 : Int32) w_days_2 H locs hP hD hS ls (lv_sub hl [1, 2, 0] rfl) hn_11
  exact L_2 n_2 (0 : Int32) w_days H locs hP hD hS ls (lv_sub hl [1, 0] rfl) hn_2

/-! DryWellsModel.from -/
noncomputable def shX7_from_j_26 (a1 : Int32) (a2 : Int32) (w_days : Nat → Int32) (s0_j_26 : Int32) : Option (Int32) :=
  ((gd (((8 : Int32) * (a2 &&& (((1 : Int32) <<< ((a1 - (1 : Int32)) &&& 31)) ^^^ (-1 : Int32)))) + a1) 1024).bind fun _ => ((shX7_far s0_j_26 (w_days ((((8 : Int32) * (a2 &&& (((1 : Int32) <<< ((a1 - (1 : Int32)) &&& 31)) ^^^ (-1 : Int32)))) + a1)).toNatClampNeg)).bind fun o_45 => some o_45))
noncomputable def shX7_from (a1 : Int32) (a2 : Int32) (v_at : Int32) (w_way : Nat → Int32) (w_days : Nat → Int32) : Option (Int32) :=
  (if ¬ a1 = v_at then ((gd (((8 : Int32) * v_at) + a1) 64).bind fun _ => (shX7_from_j_26 a1 a2 w_days (w_way ((((8 : Int32) * v_at) + a1)).toNatClampNeg))) else (shX7_from_j_26 a1 a2 w_days (0 : Int32)))
def wdX7_from (cI cJ cZ : ClassId) (q_this q_tape q_prior q_pipesIn q_pipe q_met q_chance q_rock q_people q_bad q_well q_ends q_runs q_way q_words q_told q_weight q_days q_depth q_bestDepth q_hopes q_planOf q_planDepth : Nat) (v_tapeSize : Int32) (v_thrown : Int32) (v_salt : Int32) (v_dry : Int32) (v_rest : Int32) (v_fault : Int32) (v_faultPlace : Int32) (v_rocks : Int32) (v_villages : Int32) (v_day : Int32) (v_at : Int32) (v_allPipes : Int32) (v_end : Int32) (v_next : Int32) (v_kind : Int32) (v_which : Int32) (v_place : Int32) (v_isPlan : Int32) (v_planMany : Int32) (v_planPipes : Int32) (v_planDays : Int32) (w_way : Nat → Int32) (w_days : Nat → Int32) : va_W := [(q_this, .inr (7, [.ref q_tape, .int v_tapeSize, .int v_thrown, .int v_salt, .int v_dry, .int v_rest, .int v_fault, .int v_faultPlace, .int v_rocks, .ref q_prior, .ref q_pipesIn, .ref q_pipe, .ref q_met, .ref q_chance, .int v_villages, .ref q_rock, .ref q_people, .ref q_bad, .ref q_well, .ref q_ends, .ref q_runs, .ref q_way, .int v_day, .int v_at, .int v_allPipes, .ref q_words, .int v_end, .int v_next, .int v_kind, .int v_which, .int v_place, .ref q_told, .ref q_weight, .ref q_days, .ref q_depth, .ref q_bestDepth, .ref q_hopes, .int v_isPlan, .int v_planMany, .int v_planPipes, .int v_planDays, .ref q_planOf, .ref q_planDepth])), (q_way, .inl (cI, 64, .inl w_way)), (q_days, .inl (cI, 1024, .inl w_days))]
abbrev rmX7_from : Room := { frames := 1, cells := 0, slots := 0, locals := 21 }
theorem inX7_from_X7 : ∀ w ∈ u_ws RX7 TX7 43, w ∈ wsX7_from := fun _ h => List.mem_cons_of_mem _ (List.mem_append_right _ h)
theorem lkX7_from_146 : Cond.fieldLink RX7 146 (TX7 23).1 (TX7 23).2.1 (TX7 23).2.2.1 ∈ wsX7_from := List.mem_of_getElem? (i := 1) rfl
theorem lkX7_from_57 : Cond.fieldLink RX7 57 (TX7 21).1 (TX7 21).2.1 (TX7 21).2.2.1 ∈ wsX7_from := List.mem_of_getElem? (i := 2) rfl
theorem lkX7_from_70 : Cond.fieldLink RX7 70 (TX7 33).1 (TX7 33).2.1 (TX7 33).2.2.1 ∈ wsX7_from := List.mem_of_getElem? (i := 3) rfl
theorem hdX7_from : yX7_from.cls = RX7 ∧ yX7_from.cls ≠ "java/lang/invoke/MethodHandle" ∧ yX7_from.cls ≠ "java/lang/invoke/VarHandle" ∧ (parseMethodDescriptor yX7_from.desc).map (fun d => d.parameters.length) = some 2 := by decide +kernel
set_option maxHeartbeats 4000000 in
set_option maxRecDepth 100000 in
theorem ctX7_from (l : Launch) (D : va_G) (cI cJ cZ : ClassId) (q_this q_tape q_prior q_pipesIn q_pipe q_met q_chance q_rock q_people q_bad q_well q_ends q_runs q_way q_words q_told q_weight q_days q_depth q_bestDepth q_hopes q_planOf q_planDepth : Nat) (v_tapeSize : Int32) (v_thrown : Int32) (v_salt : Int32) (v_dry : Int32) (v_rest : Int32) (v_fault : Int32) (v_faultPlace : Int32) (v_rocks : Int32) (v_villages : Int32) (v_day : Int32) (v_at : Int32) (v_allPipes : Int32) (v_end : Int32) (v_next : Int32) (v_kind : Int32) (v_which : Int32) (v_place : Int32) (v_isPlan : Int32) (v_planMany : Int32) (v_planPipes : Int32) (v_planDays : Int32) (w_way : Nat → Int32) (w_days : Nat → Int32) (a1 : Int32) (a2 : Int32) (o : Int32) (hsh : shX7_from a1 a2 v_at w_way w_days = some o) : CtI l yX7_from wsX7_from rmX7_from D (tys3 cI cJ cZ) noE (wdX7_from cI cJ cZ q_this q_tape q_prior q_pipesIn q_pipe q_met q_chance q_rock q_people q_bad q_well q_ends q_runs q_way q_words q_told q_weight q_days q_depth q_bestDepth q_hopes q_planOf q_planDepth v_tapeSize v_thrown v_salt v_dry v_rest v_fault v_faultPlace v_rocks v_villages v_day v_at v_allPipes v_end v_next v_kind v_which v_place v_isPlan v_planMany v_planPipes v_planDays w_way w_days) [.ref q_this, .int a1, .int a2] o (wdX7_from cI cJ cZ q_this q_tape q_prior q_pipesIn q_pipe q_met q_chance q_rock q_people q_bad q_well q_ends q_runs q_way q_words q_told q_weight q_days q_depth q_bestDepth q_hopes q_planOf q_planDepth v_tapeSize v_thrown v_salt v_dry v_rest v_fault v_faultPlace v_rocks v_villages v_day v_at v_allPipes v_end v_next v_kind v_which v_place v_isPlan v_planMany v_planPipes v_planDays w_way w_days) := by
  refine ctI plX7 rfl (Nat.le_of_ble_eq_true rfl) ?_
  intro p e s m below meth c A Q S hK hA hE hret H locs hP hD hS ls hl
  replace S : CallFix p m c cX7_from 3 s _ wsX7_from RX7 := S
  generalize ([.ref q_this, .int a1, .int a2] : List Value).toArray = args at S hret ⊢
  obtain ⟨hx, hb, hml, hown, hts⟩ := id S
  replace hl : lv_has ls 3 [(0, .ref q_this), (1, .int a1), (2, .int a2)] := hl
  unfold shX7_from at hsh
  have Jj_26 : ∀ (s0_j_26 : Int32) (H : Heap) (locs : List Loc), va_P D vwCl (wdX7_from cI cJ cZ q_this q_tape q_prior q_pipesIn q_pipe q_met q_chance q_rock q_people q_bad q_well q_ends q_runs q_way q_words q_told q_weight q_days q_depth q_bestDepth q_hopes q_planOf q_planDepth v_tapeSize v_thrown v_salt v_dry v_rest v_fault v_faultPlace v_rocks v_villages v_day v_at v_allPipes v_end v_next v_kind v_which v_place v_isPlan v_planMany v_planPipes v_planDays w_way w_days) H → va_D A (wdX7_from cI cJ cZ q_this q_tape q_prior q_pipesIn q_pipe q_met q_chance q_rock q_people q_bad q_well q_ends q_runs q_way q_words q_told q_weight q_days q_depth q_bestDepth q_hopes q_planOf q_planDepth v_tapeSize v_thrown v_salt v_dry v_rest v_fault v_faultPlace v_rocks v_villages v_day v_at v_allPipes v_end v_next v_kind v_which v_place v_isPlan v_planMany v_planPipes v_planDays w_way w_days) → va_S A s.heap H locs → ∀ ls : Array Slot, lv_has ls 3 [(0, .ref q_this), (1, .int a1), (2, .int a2)] → shX7_from_j_26 a1 a2 w_days s0_j_26 = some o → W p l e rmX7_from s m args below meth c H locs 0 0 Q (F0 m 26 ls [.int s0_j_26]) := by
    intro s0_j_26 H locs hP hD hS ls hl hsh
    unfold shX7_from_j_26 at hsh
    refine lv_aload_n hx hb dX7_from_26 rfl (lv_at hl 0 rfl) ?_
    refine kget (ci := 7) S hK hP rfl inX7_from_X7 0 rfl 33 (by decide) lkX7_from_70 rfl dX7_from_27 ?_
    refine lv_bipush (v := (8 : Int32)) hx hb dX7_from_30 (by decide) ?_
    refine lv_iload_n hx hb dX7_from_32 rfl (lv_at hl 2 rfl) ?_
    refine lv_iconst (v := (1 : Int32)) hx hb dX7_from_33 (by decide) ?_
    refine lv_iload_n hx hb dX7_from_34 rfl (lv_at hl 1 rfl) ?_
    refine lv_iconst (v := (1 : Int32)) hx hb dX7_from_35 (by decide) ?_
    refine lv_isub hx hb dX7_from_36 ?_
    refine lv_ishl hx hb dX7_from_37 ?_
    refine lv_iconst (v := (-1 : Int32)) hx hb dX7_from_38 (by decide) ?_
    refine lv_ixor hx hb dX7_from_39 ?_
    refine lv_iand hx hb dX7_from_40 ?_
    refine lv_imul hx hb dX7_from_41 ?_
    refine lv_iload_n hx hb dX7_from_42 rfl (lv_at hl 1 rfl) ?_
    refine lv_iadd hx hb dX7_from_43 ?_
    obtain ⟨_, hg, hsh⟩ := bd hsh
    refine kial S hK hP 2 0 rfl rfl (gd_in hg) dX7_from_44 ?_
    obtain ⟨o_45, he, hsh⟩ := bd hsh
    refine kSi S hK hA (ctX7_far l D cI cJ cZ s0_j_26 (w_days ((((8 : Int32) * (a2 &&& (((1 : Int32) <<< ((a1 - (1 : Int32)) &&& 31)) ^^^ (-1 : Int32)))) + a1)).toNatClampNeg) o_45 he) noE_cl (va_cwS 2 hts gX7_from_X7_far rfl rfl rfl hdX7_far ⟨Nat.le_of_ble_eq_true rfl, Nat.le_of_ble_eq_true rfl⟩) [] [0, 1, 2] [0, 1, 2] (ws' := (wdX7_from cI cJ cZ q_this q_tape q_prior q_pipesIn q_pipe q_met q_chance q_rock q_people q_bad q_well q_ends q_runs q_way q_words q_told q_weight q_days q_depth q_bestDepth q_hopes q_planOf q_planDepth v_tapeSize v_thrown v_salt v_dry v_rest v_fault v_faultPlace v_rocks v_villages v_day v_at v_allPipes v_end v_next v_kind v_which v_place v_isPlan v_planMany v_planPipes v_planDays w_way w_days)) ⟨rfl, rfl, rfl, rfl, rfl, rfl, rfl⟩ trivial rfl hl.1 rfl (Nat.le_of_ble_eq_true rfl) dX7_from_45 hP hD hS (fun H locs hP hD hS => ?_)
    have ho := Option.some.inj hsh
    rw [← ho] at hret
    exact hret _ _ _ _ dX7_from_48 hP hD hS
  refine lv_iload_n hx hb dX7_from_0 rfl (lv_at hl 1 rfl) ?_
  refine lv_aload_n hx hb dX7_from_1 rfl (lv_at hl 0 rfl) ?_
  refine kget (ci := 7) S hK hP rfl inX7_from_X7 0 rfl 23 (by decide) lkX7_from_146 rfl dX7_from_2 ?_
  refine lv_icmp_ne (tgt := 12) hx hb dX7_from_5 (by decide) (fun c1 => ?_) (fun c1 => ?_)
  · skip
    have hsh := ite_t hsh c1
    refine lv_aload_n hx hb dX7_from_12 rfl (lv_at hl 0 rfl) ?_
    refine kget (ci := 7) S hK hP rfl inX7_from_X7 0 rfl 21 (by decide) lkX7_from_57 rfl dX7_from_13 ?_
    refine lv_bipush (v := (8 : Int32)) hx hb dX7_from_16 (by decide) ?_
    refine lv_aload_n hx hb dX7_from_18 rfl (lv_at hl 0 rfl) ?_
    refine kget (ci := 7) S hK hP rfl inX7_from_X7 0 rfl 23 (by decide) lkX7_from_146 rfl dX7_from_19 ?_
    refine lv_imul hx hb dX7_from_22 ?_
    refine lv_iload_n hx hb dX7_from_23 rfl (lv_at hl 1 rfl) ?_
    refine lv_iadd hx hb dX7_from_24 ?_
    obtain ⟨_, hg, hsh⟩ := bd hsh
    refine kial S hK hP 1 0 rfl rfl (gd_in hg) dX7_from_25 ?_
    exact Jj_26 (w_way ((((8 : Int32) * v_at) + a1)).toNatClampNeg) H locs hP hD hS ls (lv_sub hl [0, 1, 2] rfl) hsh
  · skip
    have hsh := ite_f hsh (fun h => h c1)
    refine lv_iconst (v := (0 : Int32)) hx hb dX7_from_8 (by decide) ?_
    refine lv_goto (tgt := 26) hx hb dX7_from_9 (by decide) ?_
    exact Jj_26 (0 : Int32) H locs hP hD hS ls (lv_sub hl [0, 1, 2] rfl) hsh

/-! DryWellsModel.through -/
noncomputable def shX7_through_j_56 (x2_j_56 : Int32) : Option (Int32) :=
  some x2_j_56
noncomputable def shX7_through_k14_50 (x3_14 : Int32) (x2_k14_50 : Int32) : Option ((Int32 × Int32) ⊕ ((Int32))) :=
  some (Sum.inl (x2_k14_50, (x3_14 + (1 : Int32))))
noncomputable def shX7_through_L14 (a1 : Int32) (v_villages : Int32) (v_at : Int32) (w_way : Nat → Int32) (w_days : Nat → Int32) (x2_14 : Int32) (x3_14 : Int32) : Option ((Int32 × Int32) ⊕ ((Int32))) :=
  (if v_villages < x3_14 then some (Sum.inr x2_14) else (if ¬ ((a1 >>> ((x3_14 - (1 : Int32)) &&& 31)) &&& (1 : Int32)) = (1 : Int32) then (shX7_through_k14_50 x3_14 x2_14) else ((shX7_from x3_14 a1 v_at w_way w_days).bind fun o_36 => (if x2_14 ≤ o_36 then (shX7_through_k14_50 x3_14 x2_14) else ((shX7_from x3_14 a1 v_at w_way w_days).bind fun o_46 => (shX7_through_k14_50 x3_14 o_46))))))
noncomputable def shX7_through_j_11 (a1 : Int32) (v_villages : Int32) (v_at : Int32) (w_way : Nat → Int32) (w_days : Nat → Int32) (s0_j_11 : Int32) : Option (Int32) :=
  ((lp (fun s : Int32 × Int32 => shX7_through_L14 a1 v_villages v_at w_way w_days s.1 s.2) (s0_j_11, (1 : Int32))).bind (fun p : Int32 => shX7_through_j_56 p))
noncomputable def shX7_through (a1 : Int32) (v_villages : Int32) (v_at : Int32) (w_way : Nat → Int32) (w_days : Nat → Int32) : Option (Int32) :=
  (if ¬ a1 = 0 then (shX7_through_j_11 a1 v_villages v_at w_way w_days (9999 : Int32)) else (shX7_through_j_11 a1 v_villages v_at w_way w_days (0 : Int32)))
def wdX7_through (cI cJ cZ : ClassId) (q_this q_tape q_prior q_pipesIn q_pipe q_met q_chance q_rock q_people q_bad q_well q_ends q_runs q_way q_words q_told q_weight q_days q_depth q_bestDepth q_hopes q_planOf q_planDepth : Nat) (v_tapeSize : Int32) (v_thrown : Int32) (v_salt : Int32) (v_dry : Int32) (v_rest : Int32) (v_fault : Int32) (v_faultPlace : Int32) (v_rocks : Int32) (v_villages : Int32) (v_day : Int32) (v_at : Int32) (v_allPipes : Int32) (v_end : Int32) (v_next : Int32) (v_kind : Int32) (v_which : Int32) (v_place : Int32) (v_isPlan : Int32) (v_planMany : Int32) (v_planPipes : Int32) (v_planDays : Int32) (w_way : Nat → Int32) (w_days : Nat → Int32) : va_W := [(q_this, .inr (7, [.ref q_tape, .int v_tapeSize, .int v_thrown, .int v_salt, .int v_dry, .int v_rest, .int v_fault, .int v_faultPlace, .int v_rocks, .ref q_prior, .ref q_pipesIn, .ref q_pipe, .ref q_met, .ref q_chance, .int v_villages, .ref q_rock, .ref q_people, .ref q_bad, .ref q_well, .ref q_ends, .ref q_runs, .ref q_way, .int v_day, .int v_at, .int v_allPipes, .ref q_words, .int v_end, .int v_next, .int v_kind, .int v_which, .int v_place, .ref q_told, .ref q_weight, .ref q_days, .ref q_depth, .ref q_bestDepth, .ref q_hopes, .int v_isPlan, .int v_planMany, .int v_planPipes, .int v_planDays, .ref q_planOf, .ref q_planDepth])), (q_way, .inl (cI, 64, .inl w_way)), (q_days, .inl (cI, 1024, .inl w_days))]
abbrev rmX7_through : Room := { frames := 2, cells := 0, slots := 0, locals := 43 }
theorem inX7_through_X7 : ∀ w ∈ u_ws RX7 TX7 43, w ∈ wsX7_through := fun _ h => List.mem_cons_of_mem _ (List.mem_append_right _ h)
theorem lkX7_through_143 : Cond.fieldLink RX7 143 (TX7 14).1 (TX7 14).2.1 (TX7 14).2.2.1 ∈ wsX7_through := List.mem_of_getElem? (i := 1) rfl
theorem hdX7_through : yX7_through.cls = RX7 ∧ yX7_through.cls ≠ "java/lang/invoke/MethodHandle" ∧ yX7_through.cls ≠ "java/lang/invoke/VarHandle" ∧ (parseMethodDescriptor yX7_through.desc).map (fun d => d.parameters.length) = some 1 := by decide +kernel
set_option maxHeartbeats 4000000 in
set_option maxRecDepth 100000 in
theorem ctX7_through (l : Launch) (D : va_G) (cI cJ cZ : ClassId) (q_this q_tape q_prior q_pipesIn q_pipe q_met q_chance q_rock q_people q_bad q_well q_ends q_runs q_way q_words q_told q_weight q_days q_depth q_bestDepth q_hopes q_planOf q_planDepth : Nat) (v_tapeSize : Int32) (v_thrown : Int32) (v_salt : Int32) (v_dry : Int32) (v_rest : Int32) (v_fault : Int32) (v_faultPlace : Int32) (v_rocks : Int32) (v_villages : Int32) (v_day : Int32) (v_at : Int32) (v_allPipes : Int32) (v_end : Int32) (v_next : Int32) (v_kind : Int32) (v_which : Int32) (v_place : Int32) (v_isPlan : Int32) (v_planMany : Int32) (v_planPipes : Int32) (v_planDays : Int32) (w_way : Nat → Int32) (w_days : Nat → Int32) (a1 : Int32) (o : Int32) (hsh : shX7_through a1 v_villages v_at w_way w_days = some o) : CtI l yX7_through wsX7_through rmX7_through D (tys3 cI cJ cZ) noE (wdX7_through cI cJ cZ q_this q_tape q_prior q_pipesIn q_pipe q_met q_chance q_rock q_people q_bad q_well q_ends q_runs q_way q_words q_told q_weight q_days q_depth q_bestDepth q_hopes q_planOf q_planDepth v_tapeSize v_thrown v_salt v_dry v_rest v_fault v_faultPlace v_rocks v_villages v_day v_at v_allPipes v_end v_next v_kind v_which v_place v_isPlan v_planMany v_planPipes v_planDays w_way w_days) [.ref q_this, .int a1] o (wdX7_through cI cJ cZ q_this q_tape q_prior q_pipesIn q_pipe q_met q_chance q_rock q_people q_bad q_well q_ends q_runs q_way q_words q_told q_weight q_days q_depth q_bestDepth q_hopes q_planOf q_planDepth v_tapeSize v_thrown v_salt v_dry v_rest v_fault v_faultPlace v_rocks v_villages v_day v_at v_allPipes v_end v_next v_kind v_which v_place v_isPlan v_planMany v_planPipes v_planDays w_way w_days) := by
  refine ctI plX7 rfl (Nat.le_of_ble_eq_true rfl) ?_
  intro p e s m below meth c A Q S hK hA hE hret H locs hP hD hS ls hl
  replace S : CallFix p m c cX7_through 4 s _ wsX7_through RX7 := S
  generalize ([.ref q_this, .int a1] : List Value).toArray = args at S hret ⊢
  obtain ⟨hx, hb, hml, hown, hts⟩ := id S
  replace hl : lv_has ls 4 [(0, .ref q_this), (1, .int a1)] := hl
  unfold shX7_through at hsh
  have Jj_56 : ∀ (x2_j_56 : Int32) (H : Heap) (locs : List Loc), va_P D vwCl (wdX7_through cI cJ cZ q_this q_tape q_prior q_pipesIn q_pipe q_met q_chance q_rock q_people q_bad q_well q_ends q_runs q_way q_words q_told q_weight q_days q_depth q_bestDepth q_hopes q_planOf q_planDepth v_tapeSize v_thrown v_salt v_dry v_rest v_fault v_faultPlace v_rocks v_villages v_day v_at v_allPipes v_end v_next v_kind v_which v_place v_isPlan v_planMany v_planPipes v_planDays w_way w_days) H → va_D A (wdX7_through cI cJ cZ q_this q_tape q_prior q_pipesIn q_pipe q_met q_chance q_rock q_people q_bad q_well q_ends q_runs q_way q_words q_told q_weight q_days q_depth q_bestDepth q_hopes q_planOf q_planDepth v_tapeSize v_thrown v_salt v_dry v_rest v_fault v_faultPlace v_rocks v_villages v_day v_at v_allPipes v_end v_next v_kind v_which v_place v_isPlan v_planMany v_planPipes v_planDays w_way w_days) → va_S A s.heap H locs → ∀ ls : Array Slot, lv_has ls 4 [(2, .int x2_j_56)] → shX7_through_j_56 x2_j_56 = some o → W p l e rmX7_through s m args below meth c H locs 0 0 Q (F0 m 56 ls []) := by
    intro x2_j_56 H locs hP hD hS ls hl hsh
    unfold shX7_through_j_56 at hsh
    refine lv_iload_n hx hb dX7_through_56 rfl (lv_at hl 0 rfl) ?_
    have ho := Option.some.inj hsh
    rw [← ho] at hret
    exact hret _ _ _ _ dX7_through_57 hP hD hS
  have Jj_11 : ∀ (s0_j_11 : Int32) (H : Heap) (locs : List Loc), va_P D vwCl (wdX7_through cI cJ cZ q_this q_tape q_prior q_pipesIn q_pipe q_met q_chance q_rock q_people q_bad q_well q_ends q_runs q_way q_words q_told q_weight q_days q_depth q_bestDepth q_hopes q_planOf q_planDepth v_tapeSize v_thrown v_salt v_dry v_rest v_fault v_faultPlace v_rocks v_villages v_day v_at v_allPipes v_end v_next v_kind v_which v_place v_isPlan v_planMany v_planPipes v_planDays w_way w_days) H → va_D A (wdX7_through cI cJ cZ q_this q_tape q_prior q_pipesIn q_pipe q_met q_chance q_rock q_people q_bad q_well q_ends q_runs q_way q_words q_told q_weight q_days q_depth q_bestDepth q_hopes q_planOf q_planDepth v_tapeSize v_thrown v_salt v_dry v_rest v_fault v_faultPlace v_rocks v_villages v_day v_at v_allPipes v_end v_next v_kind v_which v_place v_isPlan v_planMany v_planPipes v_planDays w_way w_days) → va_S A s.heap H locs → ∀ ls : Array Slot, lv_has ls 4 [(0, .ref q_this), (1, .int a1)] → shX7_through_j_11 a1 v_villages v_at w_way w_days s0_j_11 = some o → W p l e rmX7_through s m args below meth c H locs 0 0 Q (F0 m 11 ls [.int s0_j_11]) := by
    intro s0_j_11 H locs hP hD hS ls hl hsh
    unfold shX7_through_j_11 at hsh
    refine lv_istore_n (lv' := [(2, .int s0_j_11), (0, .ref q_this), (1, .int a1)]) hx hb dX7_through_11 rfl hl (by decide) rfl (fun ls hl => ?_)
    refine lv_iconst (v := (1 : Int32)) hx hb dX7_through_12 (by decide) ?_
    refine lv_istore_n (lv' := [(3, .int (1 : Int32)), (2, .int s0_j_11), (0, .ref q_this), (1, .int a1)]) hx hb dX7_through_13 rfl hl (by decide) rfl (fun ls hl => ?_)
    obtain ⟨r_14, hl_14, hk_14⟩ := bd hsh
    obtain ⟨n_14, hn_14⟩ := lp_iff.mp hl_14
    have L_14 : ∀ (n : Nat) (x2_14 : Int32) (x3_14 : Int32) (H : Heap) (locs : List Loc), va_P D vwCl (wdX7_through cI cJ cZ q_this q_tape q_prior q_pipesIn q_pipe q_met q_chance q_rock q_people q_bad q_well q_ends q_runs q_way q_words q_told q_weight q_days q_depth q_bestDepth q_hopes q_planOf q_planDepth v_tapeSize v_thrown v_salt v_dry v_rest v_fault v_faultPlace v_rocks v_villages v_day v_at v_allPipes v_end v_next v_kind v_which v_place v_isPlan v_planMany v_planPipes v_planDays w_way w_days) H → va_D A (wdX7_through cI cJ cZ q_this q_tape q_prior q_pipesIn q_pipe q_met q_chance q_rock q_people q_bad q_well q_ends q_runs q_way q_words q_told q_weight q_days q_depth q_bestDepth q_hopes q_planOf q_planDepth v_tapeSize v_thrown v_salt v_dry v_rest v_fault v_faultPlace v_rocks v_villages v_day v_at v_allPipes v_end v_next v_kind v_which v_place v_isPlan v_planMany v_planPipes v_planDays w_way w_days) → va_S A s.heap H locs → ∀ ls : Array Slot, lv_has ls 4 [(0, .ref q_this), (1, .int a1), (2, .int x2_14), (3, .int x3_14)] → it (fun s : Int32 × Int32 => shX7_through_L14 a1 v_villages v_at w_way w_days s.1 s.2) n (x2_14, x3_14) = some r_14 → W p l e rmX7_through s m args below meth c H locs 0 0 Q (F0 m 14 ls []) := by
      intro n
      induction n with
      | zero => exact fun _ _ _ _ _ _ _ _ _ hi => it_0 hi
      | succ n ih_14 =>
        intro x2_14 x3_14 H locs hP hD hS ls hl hi
        obtain ⟨b_14, hsh, hB1_14, hB2_14⟩ := it_b hi
        replace hsh : shX7_through_L14 a1 v_villages v_at w_way w_days x2_14 x3_14 = some b_14 := hsh
        unfold shX7_through_L14 at hsh
        have Jk14_50 : ∀ (x2_k14_50 : Int32) (H : Heap) (locs : List Loc), va_P D vwCl (wdX7_through cI cJ cZ q_this q_tape q_prior q_pipesIn q_pipe q_met q_chance q_rock q_people q_bad q_well q_ends q_runs q_way q_words q_told q_weight q_days q_depth q_bestDepth q_hopes q_planOf q_planDepth v_tapeSize v_thrown v_salt v_dry v_rest v_fault v_faultPlace v_rocks v_villages v_day v_at v_allPipes v_end v_next v_kind v_which v_place v_isPlan v_planMany v_planPipes v_planDays w_way w_days) H → va_D A (wdX7_through cI cJ cZ q_this q_tape q_prior q_pipesIn q_pipe q_met q_chance q_rock q_people q_bad q_well q_ends q_runs q_way q_words q_told q_weight q_days q_depth q_bestDepth q_hopes q_planOf q_planDepth v_tapeSize v_thrown v_salt v_dry v_rest v_fault v_faultPlace v_rocks v_villages v_day v_at v_allPipes v_end v_next v_kind v_which v_place v_isPlan v_planMany v_planPipes v_planDays w_way w_days) → va_S A s.heap H locs → ∀ ls : Array Slot, lv_has ls 4 [(0, .ref q_this), (1, .int a1), (2, .int x2_k14_50), (3, .int x3_14)] → shX7_through_k14_50 x3_14 x2_k14_50 = some b_14 → W p l e rmX7_through s m args below meth c H locs 0 0 Q (F0 m 50 ls []) := by
          intro x2_k14_50 H locs hP hD hS ls hl hsh
          unfold shX7_through_k14_50 at hsh
          refine lv_iinc (v := (x3_14 + (1 : Int32))) (lv' := [(3, .int (x3_14 + (1 : Int32))), (0, .ref q_this), (1, .int a1), (2, .int x2_k14_50)]) hx hb dX7_through_50 hl (k := 3) rfl (congrArg (fun z : Int32 => x3_14 + z) (by decide)) (by decide) rfl (fun ls hl => ?_)
          refine lv_goto (tgt := 14) hx hb dX7_through_53 (by decide) ?_
          exact ih_14 x2_k14_50 (x3_14 + (1 : Int32)) H locs hP hD hS ls (lv_sub hl [1, 2, 3, 0] rfl) (hB1_14 _ hsh)
        refine lv_iload_n hx hb dX7_through_14 rfl (lv_at hl 3 rfl) ?_
        refine lv_aload_n hx hb dX7_through_15 rfl (lv_at hl 0 rfl) ?_
        refine kget (ci := 7) S hK hP rfl inX7_through_X7 0 rfl 14 (by decide) lkX7_through_143 rfl dX7_through_16 ?_
        refine lv_icmp_gt (tgt := 56) hx hb dX7_through_19 (by decide) (fun c1 => ?_) (fun c1 => ?_)
        · skip
          have hsh := ite_t hsh c1
          have he := hB2_14 _ hsh
          rw [← he] at hk_14
          exact Jj_56 x2_14 H locs hP hD hS ls (lv_sub hl [2] rfl) hk_14
        · skip
          have hsh := ite_f hsh c1
          refine lv_iload_n hx hb dX7_through_22 rfl (lv_at hl 1 rfl) ?_
          refine lv_iload_n hx hb dX7_through_23 rfl (lv_at hl 3 rfl) ?_
          refine lv_iconst (v := (1 : Int32)) hx hb dX7_through_24 (by decide) ?_
          refine lv_isub hx hb dX7_through_25 ?_
          refine lv_ishr hx hb dX7_through_26 ?_
          refine lv_iconst (v := (1 : Int32)) hx hb dX7_through_27 (by decide) ?_
          refine lv_iand hx hb dX7_through_28 ?_
          refine lv_iconst (v := (1 : Int32)) hx hb dX7_through_29 (by decide) ?_
          refine lv_icmp_ne (tgt := 50) hx hb dX7_through_30 (by decide) (fun c1 => ?_) (fun c1 => ?_)
          · skip
            have hsh := ite_t hsh c1
            exact Jk14_50 x2_14 H locs hP hD hS ls (lv_sub hl [0, 1, 2, 3] rfl) hsh
          · skip
            have hsh := ite_f hsh (fun h => h c1)
            refine lv_aload_n hx hb dX7_through_33 rfl (lv_at hl 0 rfl) ?_
            refine lv_iload_n hx hb dX7_through_34 rfl (lv_at hl 3 rfl) ?_
            refine lv_iload_n hx hb dX7_through_35 rfl (lv_at hl 1 rfl) ?_
            obtain ⟨o_36, he, hsh⟩ := bd hsh
            refine kVi (ci := 7) S hK hA (ctX7_from l D cI cJ cZ q_this q_tape q_prior q_pipesIn q_pipe q_met q_chance q_rock q_people q_bad q_well q_ends q_runs q_way q_words q_told q_weight q_days q_depth q_bestDepth q_hopes q_planOf q_planDepth v_tapeSize v_thrown v_salt v_dry v_rest v_fault v_faultPlace v_rocks v_villages v_day v_at v_allPipes v_end v_next v_kind v_which v_place v_isPlan v_planMany v_planPipes v_planDays w_way w_days x3_14 a1 o_36 he) noE_cl (cwV 2 hts gX7_through_X7_from rfl rfl rfl hdX7_from ⟨Nat.le_of_ble_eq_true rfl, Nat.le_of_ble_eq_true rfl⟩) rfl 0 rfl [0, 1, 2] [] [0, 1, 2] (ws' := (wdX7_through cI cJ cZ q_this q_tape q_prior q_pipesIn q_pipe q_met q_chance q_rock q_people q_bad q_well q_ends q_runs q_way q_words q_told q_weight q_days q_depth q_bestDepth q_hopes q_planOf q_planDepth v_tapeSize v_thrown v_salt v_dry v_rest v_fault v_faultPlace v_rocks v_villages v_day v_at v_allPipes v_end v_next v_kind v_which v_place v_isPlan v_planMany v_planPipes v_planDays w_way w_days)) ⟨rfl, rfl, rfl, rfl, rfl, rfl, rfl⟩ trivial rfl hl.1 rfl (Nat.le_of_ble_eq_true rfl) dX7_through_36 hP hD hS (fun H locs hP hD hS => ?_)
            refine lv_iload_n hx hb dX7_through_39 rfl (lv_at hl 2 rfl) ?_
            refine lv_icmp_ge (tgt := 50) hx hb dX7_through_40 (by decide) (fun c1 => ?_) (fun c1 => ?_)
            · skip
              have hsh := ite_t hsh c1
              exact Jk14_50 x2_14 H locs hP hD hS ls (lv_sub hl [0, 1, 2, 3] rfl) hsh
            · skip
              have hsh := ite_f hsh c1
              refine lv_aload_n hx hb dX7_through_43 rfl (lv_at hl 0 rfl) ?_
              refine lv_iload_n hx hb dX7_through_44 rfl (lv_at hl 3 rfl) ?_
              refine lv_iload_n hx hb dX7_through_45 rfl (lv_at hl 1 rfl) ?_
              obtain ⟨o_46, he, hsh⟩ := bd hsh
              refine kVi (ci := 7) S hK hA (ctX7_from l D cI cJ cZ q_this q_tape q_prior q_pipesIn q_pipe q_met q_chance q_rock q_people q_bad q_well q_ends q_runs q_way q_words q_told q_weight q_days q_depth q_bestDepth q_hopes q_planOf q_planDepth v_tapeSize v_thrown v_salt v_dry v_rest v_fault v_faultPlace v_rocks v_villages v_day v_at v_allPipes v_end v_next v_kind v_which v_place v_isPlan v_planMany v_planPipes v_planDays w_way w_days x3_14 a1 o_46 he) noE_cl (cwV 2 hts gX7_through_X7_from rfl rfl rfl hdX7_from ⟨Nat.le_of_ble_eq_true rfl, Nat.le_of_ble_eq_true rfl⟩) rfl 0 rfl [0, 1, 2] [] [0, 1, 2] (ws' := (wdX7_through cI cJ cZ q_this q_tape q_prior q_pipesIn q_pipe q_met q_chance q_rock q_people q_bad q_well q_ends q_runs q_way q_words q_told q_weight q_days q_depth q_bestDepth q_hopes q_planOf q_planDepth v_tapeSize v_thrown v_salt v_dry v_rest v_fault v_faultPlace v_rocks v_villages v_day v_at v_allPipes v_end v_next v_kind v_which v_place v_isPlan v_planMany v_planPipes v_planDays w_way w_days)) ⟨rfl, rfl, rfl, rfl, rfl, rfl, rfl⟩ trivial rfl hl.1 rfl (Nat.le_of_ble_eq_true rfl) dX7_through_46 hP hD hS (fun H locs hP hD hS => ?_)
              refine lv_istore_n (lv' := [(2, .int o_46), (0, .ref q_this), (1, .int a1), (3, .int x3_14)]) hx hb dX7_through_49 rfl hl (by decide) rfl (fun ls hl => ?_)
              exact Jk14_50 o_46 H locs hP hD hS ls (lv_sub hl [1, 2, 0, 3] rfl) hsh
    exact L_14 n_14 s0_j_11 (1 : Int32) H locs hP hD hS ls (lv_sub hl [2, 3, 1, 0] rfl) hn_14
  refine lv_iload_n hx hb dX7_through_0 rfl (lv_at hl 1 rfl) ?_
  refine lv_if_ne (tgt := 8) hx hb dX7_through_1 (by decide) (fun c1 => ?_) (fun c1 => ?_)
  · skip
    have hsh := ite_t hsh c1
    refine lv_sipush (v := (9999 : Int32)) hx hb dX7_through_8 (by decide) ?_
    exact Jj_11 (9999 : Int32) H locs hP hD hS ls (lv_sub hl [0, 1] rfl) hsh
  · skip
    have hsh := ite_f hsh (fun h => h c1)
    refine lv_iconst (v := (0 : Int32)) hx hb dX7_through_4 (by decide) ?_
    refine lv_goto (tgt := 11) hx hb dX7_through_5 (by decide) ?_
    exact Jj_11 (0 : Int32) H locs hP hD hS ls (lv_sub hl [0, 1] rfl) hsh

/-! DryWellsModel.isWanted -/
noncomputable def shX7_isWanted (a1 : Int32) (v_dry : Int32) (w_bad : Nat → Int32) (w_well : Nat → Int32) : Option (Int32) :=
  ((gd a1 8).bind fun _ => (if ¬ (w_well (a1).toNatClampNeg) = 0 then some (0 : Int32) else ((gd a1 8).bind fun _ => (if v_dry ≤ (w_bad (a1).toNatClampNeg) then some (0 : Int32) else some (1 : Int32)))))
def wdX7_isWanted (cI cJ cZ : ClassId) (q_this q_tape q_prior q_pipesIn q_pipe q_met q_chance q_rock q_people q_bad q_well q_ends q_runs q_way q_words q_told q_weight q_days q_depth q_bestDepth q_hopes q_planOf q_planDepth : Nat) (v_tapeSize : Int32) (v_thrown : Int32) (v_salt : Int32) (v_dry : Int32) (v_rest : Int32) (v_fault : Int32) (v_faultPlace : Int32) (v_rocks : Int32) (v_villages : Int32) (v_day : Int32) (v_at : Int32) (v_allPipes : Int32) (v_end : Int32) (v_next : Int32) (v_kind : Int32) (v_which : Int32) (v_place : Int32) (v_isPlan : Int32) (v_planMany : Int32) (v_planPipes : Int32) (v_planDays : Int32) (w_bad : Nat → Int32) (w_well : Nat → Int32) : va_W := [(q_this, .inr (7, [.ref q_tape, .int v_tapeSize, .int v_thrown, .int v_salt, .int v_dry, .int v_rest, .int v_fault, .int v_faultPlace, .int v_rocks, .ref q_prior, .ref q_pipesIn, .ref q_pipe, .ref q_met, .ref q_chance, .int v_villages, .ref q_rock, .ref q_people, .ref q_bad, .ref q_well, .ref q_ends, .ref q_runs, .ref q_way, .int v_day, .int v_at, .int v_allPipes, .ref q_words, .int v_end, .int v_next, .int v_kind, .int v_which, .int v_place, .ref q_told, .ref q_weight, .ref q_days, .ref q_depth, .ref q_bestDepth, .ref q_hopes, .int v_isPlan, .int v_planMany, .int v_planPipes, .int v_planDays, .ref q_planOf, .ref q_planDepth])), (q_bad, .inl (cI, 8, .inl w_bad)), (q_well, .inl (cI, 8, .inl w_well))]
abbrev rmX7_isWanted : Room := { frames := 0, cells := 0, slots := 0, locals := 0 }
theorem inX7_isWanted_X7 : ∀ w ∈ u_ws RX7 TX7 43, w ∈ wsX7_isWanted := fun _ h => List.mem_cons_of_mem _ (List.mem_append_right _ h)
theorem lkX7_isWanted_48 : Cond.fieldLink RX7 48 (TX7 18).1 (TX7 18).2.1 (TX7 18).2.2.1 ∈ wsX7_isWanted := List.mem_of_getElem? (i := 1) rfl
theorem lkX7_isWanted_45 : Cond.fieldLink RX7 45 (TX7 17).1 (TX7 17).2.1 (TX7 17).2.2.1 ∈ wsX7_isWanted := List.mem_of_getElem? (i := 2) rfl
theorem lkX7_isWanted_17 : Cond.fieldLink RX7 17 (TX7 4).1 (TX7 4).2.1 (TX7 4).2.2.1 ∈ wsX7_isWanted := List.mem_of_getElem? (i := 3) rfl
theorem hdX7_isWanted : yX7_isWanted.cls = RX7 ∧ yX7_isWanted.cls ≠ "java/lang/invoke/MethodHandle" ∧ yX7_isWanted.cls ≠ "java/lang/invoke/VarHandle" ∧ (parseMethodDescriptor yX7_isWanted.desc).map (fun d => d.parameters.length) = some 1 := by decide +kernel
set_option maxHeartbeats 4000000 in
set_option maxRecDepth 100000 in
theorem ctX7_isWanted (l : Launch) (D : va_G) (cI cJ cZ : ClassId) (q_this q_tape q_prior q_pipesIn q_pipe q_met q_chance q_rock q_people q_bad q_well q_ends q_runs q_way q_words q_told q_weight q_days q_depth q_bestDepth q_hopes q_planOf q_planDepth : Nat) (v_tapeSize : Int32) (v_thrown : Int32) (v_salt : Int32) (v_dry : Int32) (v_rest : Int32) (v_fault : Int32) (v_faultPlace : Int32) (v_rocks : Int32) (v_villages : Int32) (v_day : Int32) (v_at : Int32) (v_allPipes : Int32) (v_end : Int32) (v_next : Int32) (v_kind : Int32) (v_which : Int32) (v_place : Int32) (v_isPlan : Int32) (v_planMany : Int32) (v_planPipes : Int32) (v_planDays : Int32) (w_bad : Nat → Int32) (w_well : Nat → Int32) (a1 : Int32) (o : Int32) (hsh : shX7_isWanted a1 v_dry w_bad w_well = some o) : CtI l yX7_isWanted wsX7_isWanted rmX7_isWanted D (tys3 cI cJ cZ) noE (wdX7_isWanted cI cJ cZ q_this q_tape q_prior q_pipesIn q_pipe q_met q_chance q_rock q_people q_bad q_well q_ends q_runs q_way q_words q_told q_weight q_days q_depth q_bestDepth q_hopes q_planOf q_planDepth v_tapeSize v_thrown v_salt v_dry v_rest v_fault v_faultPlace v_rocks v_villages v_day v_at v_allPipes v_end v_next v_kind v_which v_place v_isPlan v_planMany v_planPipes v_planDays w_bad w_well) [.ref q_this, .int a1] o (wdX7_isWanted cI cJ cZ q_this q_tape q_prior q_pipesIn q_pipe q_met q_chance q_rock q_people q_bad q_well q_ends q_runs q_way q_words q_told q_weight q_days q_depth q_bestDepth q_hopes q_planOf q_planDepth v_tapeSize v_thrown v_salt v_dry v_rest v_fault v_faultPlace v_rocks v_villages v_day v_at v_allPipes v_end v_next v_kind v_which v_place v_isPlan v_planMany v_planPipes v_planDays w_bad w_well) := by
  refine ctZ plX7 rfl (Nat.le_of_ble_eq_true rfl) ?_
  intro p e s m below meth c A Q S hK hA hE hret H locs hP hD hS ls hl
  replace S : CallFix p m c cX7_isWanted 2 s _ wsX7_isWanted RX7 := S
  generalize ([.ref q_this, .int a1] : List Value).toArray = args at S hret ⊢
  obtain ⟨hx, hb, hml, hown, hts⟩ := id S
  replace hl : lv_has ls 2 [(0, .ref q_this), (1, .int a1)] := hl
  unfold shX7_isWanted at hsh
  refine lv_aload_n hx hb dX7_isWanted_0 rfl (lv_at hl 0 rfl) ?_
  refine kget (ci := 7) S hK hP rfl inX7_isWanted_X7 0 rfl 18 (by decide) lkX7_isWanted_48 rfl dX7_isWanted_1 ?_
  refine lv_iload_n hx hb dX7_isWanted_4 rfl (lv_at hl 1 rfl) ?_
  obtain ⟨_, hg, hsh⟩ := bd hsh
  refine kial S hK hP 2 0 rfl rfl (gd_in hg) dX7_isWanted_5 ?_
  refine lv_if_ne (tgt := 26) hx hb dX7_isWanted_6 (by decide) (fun c1 => ?_) (fun c1 => ?_)
  · skip
    have hsh := ite_t hsh c1
    refine lv_iconst (v := (0 : Int32)) hx hb dX7_isWanted_26 (by decide) ?_
    have ho := Option.some.inj hsh
    rw [← ho] at hret
    exact hret _ _ _ _ nar0 dX7_isWanted_27 hP hD hS
  · skip
    have hsh := ite_f hsh (fun h => h c1)
    refine lv_aload_n hx hb dX7_isWanted_9 rfl (lv_at hl 0 rfl) ?_
    refine kget (ci := 7) S hK hP rfl inX7_isWanted_X7 0 rfl 17 (by decide) lkX7_isWanted_45 rfl dX7_isWanted_10 ?_
    refine lv_iload_n hx hb dX7_isWanted_13 rfl (lv_at hl 1 rfl) ?_
    obtain ⟨_, hg, hsh⟩ := bd hsh
    refine kial S hK hP 1 0 rfl rfl (gd_in hg) dX7_isWanted_14 ?_
    refine lv_aload_n hx hb dX7_isWanted_15 rfl (lv_at hl 0 rfl) ?_
    refine kget (ci := 7) S hK hP rfl inX7_isWanted_X7 0 rfl 4 (by decide) lkX7_isWanted_17 rfl dX7_isWanted_16 ?_
    refine lv_icmp_ge (tgt := 26) hx hb dX7_isWanted_19 (by decide) (fun c1 => ?_) (fun c1 => ?_)
    · skip
      have hsh := ite_t hsh c1
      refine lv_iconst (v := (0 : Int32)) hx hb dX7_isWanted_26 (by decide) ?_
      have ho := Option.some.inj hsh
      rw [← ho] at hret
      exact hret _ _ _ _ nar0 dX7_isWanted_27 hP hD hS
    · skip
      have hsh := ite_f hsh c1
      refine lv_iconst (v := (1 : Int32)) hx hb dX7_isWanted_22 (by decide) ?_
      refine lv_goto (tgt := 27) hx hb dX7_isWanted_23 (by decide) ?_
      have ho := Option.some.inj hsh
      rw [← ho] at hret
      exact hret _ _ _ _ nar1 dX7_isWanted_27 hP hD hS

/-! DryWellsModel.plan -/
noncomputable def shX7_plan_j_658 (x3_j_658 : Int64) (v_thrown_j_658 : Int32) (v_isPlan_j_658 : Int32) (v_planMany_j_658 : Int32) (v_planPipes_j_658 : Int32) (v_planDays_j_658 : Int32) (w_weight_j_658 : Nat → Int64) (w_days_j_658 : Nat → Int32) (w_depth_j_658 : Nat → Int32) (w_bestDepth_j_658 : Nat → Int32) (w_hopes_j_658 : Nat → Int32) (w_planOf_j_658 : Nat → Int32) (w_planDepth_j_658 : Nat → Int32) : Option (Int64 × Int32 × Int32 × Int32 × Int32 × Int32 × (Nat → Int64) × (Nat → Int32) × (Nat → Int32) × (Nat → Int32) × (Nat → Int32) × (Nat → Int32) × (Nat → Int32)) :=
  some (x3_j_658, v_thrown_j_658, v_isPlan_j_658, v_planMany_j_658, v_planPipes_j_658, v_planDays_j_658, w_weight_j_658, w_days_j_658, w_depth_j_658, w_bestDepth_j_658, w_hopes_j_658, w_planOf_j_658, w_planDepth_j_658)
noncomputable def shX7_plan_k487_601 (w_bestDepth_j_458 : Nat → Int32) (x10_487 : Int32) (v_planMany_487 : Int32) (w_planOf_487 : Nat → Int32) (w_planDepth_487 : Nat → Int32) (x12_k487_601 : Int32) : Option ((Int32 × Int32 × Int32 × (Nat → Int32) × (Nat → Int32)) ⊕ ((Int32 × (Nat → Int32) × (Nat → Int32)))) :=
  ((gd v_planMany_487 7).bind fun _ => ((gd x12_k487_601 8).bind fun _ => ((gd v_planMany_487 7).bind fun _ => some (Sum.inl (x12_k487_601, (x10_487 &&& (((1 : Int32) <<< ((x12_k487_601 - (1 : Int32)) &&& 31)) ^^^ (-1 : Int32))), (v_planMany_487 + (1 : Int32)), (upd w_planOf_487 (v_planMany_487).toNatClampNeg x12_k487_601), (upd w_planDepth_487 (v_planMany_487).toNatClampNeg (w_bestDepth_j_458 (x12_k487_601).toNatClampNeg)))))))
noncomputable def shX7_plan_k524_595 (x12_524 : Int32) : Option ((Int32) ⊕ ((Int32))) :=
  some (Sum.inl (x12_524 + (1 : Int32)))
noncomputable def shX7_plan_k524_590 (s0_k487_519 : Int32) (x12_524 : Int32) (s0_k524_590 : Int32) : Option ((Int32) ⊕ ((Int32))) :=
  (if s0_k524_590 = s0_k487_519 then some (Sum.inr x12_524) else (shX7_plan_k524_595 x12_524))
noncomputable def shX7_plan_L524 (v_at : Int32) (w_way : Nat → Int32) (w_days_j_458 : Nat → Int32) (x9_487 : Int32) (x10_487 : Int32) (s0_k487_519 : Int32) (x12_524 : Int32) : Option ((Int32) ⊕ ((Int32))) :=
  (if ((x10_487 >>> ((x12_524 - (1 : Int32)) &&& 31)) &&& (1 : Int32)) = 0 then (shX7_plan_k524_595 x12_524) else (if 0 ≤ x9_487 then ((gd (((8 : Int32) * x9_487) + x12_524) 64).bind fun _ => ((gd (((8 : Int32) * (x10_487 &&& (((1 : Int32) <<< ((x12_524 - (1 : Int32)) &&& 31)) ^^^ (-1 : Int32)))) + x12_524) 1024).bind fun _ => ((shX7_far (w_way ((((8 : Int32) * x9_487) + x12_524)).toNatClampNeg) (w_days_j_458 ((((8 : Int32) * (x10_487 &&& (((1 : Int32) <<< ((x12_524 - (1 : Int32)) &&& 31)) ^^^ (-1 : Int32)))) + x12_524)).toNatClampNeg)).bind fun o_587 => (shX7_plan_k524_590 s0_k487_519 x12_524 o_587)))) else ((shX7_from x12_524 x10_487 v_at w_way w_days_j_458).bind fun o_546 => (shX7_plan_k524_590 s0_k487_519 x12_524 o_546))))
noncomputable def shX7_plan_k487_519 (v_at : Int32) (w_way : Nat → Int32) (w_days_j_458 : Nat → Int32) (w_bestDepth_j_458 : Nat → Int32) (x9_487 : Int32) (x10_487 : Int32) (v_planMany_487 : Int32) (w_planOf_487 : Nat → Int32) (w_planDepth_487 : Nat → Int32) (s0_k487_519 : Int32) : Option ((Int32 × Int32 × Int32 × (Nat → Int32) × (Nat → Int32)) ⊕ ((Int32 × (Nat → Int32) × (Nat → Int32)))) :=
  ((lp (fun s : Int32 => shX7_plan_L524 v_at w_way w_days_j_458 x9_487 x10_487 s0_k487_519 s) (1 : Int32)).bind (fun p : Int32 => shX7_plan_k487_601 w_bestDepth_j_458 x10_487 v_planMany_487 w_planOf_487 w_planDepth_487 p))
noncomputable def shX7_plan_L487 (v_villages : Int32) (v_at : Int32) (w_way : Nat → Int32) (w_days_j_458 : Nat → Int32) (w_bestDepth_j_458 : Nat → Int32) (x9_487 : Int32) (x10_487 : Int32) (v_planMany_487 : Int32) (w_planOf_487 : Nat → Int32) (w_planDepth_487 : Nat → Int32) : Option ((Int32 × Int32 × Int32 × (Nat → Int32) × (Nat → Int32)) ⊕ ((Int32 × (Nat → Int32) × (Nat → Int32)))) :=
  (if x10_487 = 0 then some (Sum.inr (v_planMany_487, w_planOf_487, w_planDepth_487)) else (if 0 ≤ x9_487 then ((gd (((8 : Int32) * x10_487) + x9_487) 1024).bind fun _ => (shX7_plan_k487_519 v_at w_way w_days_j_458 w_bestDepth_j_458 x9_487 x10_487 v_planMany_487 w_planOf_487 w_planDepth_487 (w_days_j_458 ((((8 : Int32) * x10_487) + x9_487)).toNatClampNeg))) else ((shX7_through x10_487 v_villages v_at w_way w_days_j_458).bind fun o_500 => (shX7_plan_k487_519 v_at w_way w_days_j_458 w_bestDepth_j_458 x9_487 x10_487 v_planMany_487 w_planOf_487 w_planDepth_487 o_500))))
noncomputable def shX7_plan_j_458 (v_villages : Int32) (v_at : Int32) (w_way : Nat → Int32) (w_planOf : Nat → Int32) (w_planDepth : Nat → Int32) (x3_j_458 : Int64) (x5_j_458 : Int32) (x6_j_458 : Int32) (x7_j_458 : Int32) (v_thrown_j_458 : Int32) (w_weight_j_458 : Nat → Int64) (w_days_j_458 : Nat → Int32) (w_depth_j_458 : Nat → Int32) (w_bestDepth_j_458 : Nat → Int32) (w_hopes_j_458 : Nat → Int32) : Option (Int64 × Int32 × Int32 × Int32 × Int32 × Int32 × (Nat → Int64) × (Nat → Int32) × (Nat → Int32) × (Nat → Int32) × (Nat → Int32) × (Nat → Int32) × (Nat → Int32)) :=
  ((lp (fun s : Int32 × Int32 × Int32 × (Nat → Int32) × (Nat → Int32) => shX7_plan_L487 v_villages v_at w_way w_days_j_458 w_bestDepth_j_458 s.1 s.2.1 s.2.2.1 s.2.2.2.1 s.2.2.2.2) ((-1 : Int32), x7_j_458, (0 : Int32), w_planOf, w_planDepth)).bind (fun p : Int32 × (Nat → Int32) × (Nat → Int32) => shX7_plan_j_658 x3_j_458 v_thrown_j_458 (1 : Int32) p.1 x5_j_458 x6_j_458 w_weight_j_458 w_days_j_458 w_depth_j_458 w_bestDepth_j_458 w_hopes_j_458 p.2.1 p.2.2))
noncomputable def shX7_plan_k124_455 (x3_k124_455 : Int64) (x5_k124_455 : Int32) (x6_k124_455 : Int32) (x7_k124_455 : Int32) (x8_k124_455 : Int32) (w_depth_k124_455 : Nat → Int32) (w_bestDepth_k124_455 : Nat → Int32) : Option ((Int64 × Int32 × Int32 × Int32 × Int32 × (Nat → Int32) × (Nat → Int32)) ⊕ ((Int64 × Int32 × Int32 × Int32 × (Nat → Int32) × (Nat → Int32)))) :=
  some (Sum.inl (x3_k124_455, x5_k124_455, x6_k124_455, x7_k124_455, x8_k124_455, w_depth_k124_455, w_bestDepth_k124_455))
noncomputable def shX7_plan_L426 (v_villages : Int32) (w_depth_k124_398 : Nat → Int32) (x17_426 : Int32) (w_bestDepth_426 : Nat → Int32) : Option ((Int32 × (Nat → Int32)) ⊕ (((Nat → Int32)))) :=
  (if v_villages < x17_426 then some (Sum.inr w_bestDepth_426) else ((gd x17_426 8).bind fun _ => ((gd x17_426 8).bind fun _ => some (Sum.inl ((x17_426 + (1 : Int32)), (upd w_bestDepth_426 (x17_426).toNatClampNeg (w_depth_k124_398 (x17_426).toNatClampNeg)))))))
noncomputable def shX7_plan_k124_398 (v_villages : Int32) (x3_124 : Int64) (x5_124 : Int32) (x6_124 : Int32) (x7_124 : Int32) (w_bestDepth_124 : Nat → Int32) (s0_k124_398 : Int32) (x8_k124_398 : Int32) (x10_k124_398 : Int32) (x11_k124_398 : Int32) (x13_k124_398 : Int64) (x15_k124_398 : Int32) (w_depth_k124_398 : Nat → Int32) : Option ((Int64 × Int32 × Int32 × Int32 × Int32 × (Nat → Int32) × (Nat → Int32)) ⊕ ((Int64 × Int32 × Int32 × Int32 × (Nat → Int32) × (Nat → Int32)))) :=
  (if ¬ s0_k124_398 = 0 then ((lp (fun s : Int32 × (Nat → Int32) => shX7_plan_L426 v_villages w_depth_k124_398 s.1 s.2) ((1 : Int32), w_bestDepth_124)).bind (fun p : (Nat → Int32) => shX7_plan_k124_455 x13_k124_398 x11_k124_398 x15_k124_398 x10_k124_398 x8_k124_398 w_depth_k124_398 p)) else some (Sum.inl (x3_124, x5_124, x6_124, x7_124, x8_k124_398, w_depth_k124_398, w_bestDepth_124)))
noncomputable def shX7_plan_k124_393 (v_villages : Int32) (x3_124 : Int64) (x5_124 : Int32) (x6_124 : Int32) (x7_124 : Int32) (w_bestDepth_124 : Nat → Int32) (x8_k124_393 : Int32) (x10_k124_393 : Int32) (x11_k124_393 : Int32) (x13_k124_393 : Int64) (x15_k124_393 : Int32) (w_depth_k124_393 : Nat → Int32) : Option ((Int64 × Int32 × Int32 × Int32 × Int32 × (Nat → Int32) × (Nat → Int32)) ⊕ ((Int64 × Int32 × Int32 × Int32 × (Nat → Int32) × (Nat → Int32)))) :=
  (shX7_plan_k124_398 v_villages x3_124 x5_124 x6_124 x7_124 w_bestDepth_124 (1 : Int32) x8_k124_393 x10_k124_393 x11_k124_393 x13_k124_393 x15_k124_393 w_depth_k124_393)
noncomputable def shX7_plan_k124_397 (v_villages : Int32) (x3_124 : Int64) (x5_124 : Int32) (x6_124 : Int32) (x7_124 : Int32) (w_bestDepth_124 : Nat → Int32) (x8_k124_397 : Int32) (x10_k124_397 : Int32) (x11_k124_397 : Int32) (x13_k124_397 : Int64) (x15_k124_397 : Int32) (w_depth_k124_397 : Nat → Int32) : Option ((Int64 × Int32 × Int32 × Int32 × Int32 × (Nat → Int32) × (Nat → Int32)) ⊕ ((Int64 × Int32 × Int32 × Int32 × (Nat → Int32) × (Nat → Int32)))) :=
  (shX7_plan_k124_398 v_villages x3_124 x5_124 x6_124 x7_124 w_bestDepth_124 (0 : Int32) x8_k124_397 x10_k124_397 x11_k124_397 x13_k124_397 x15_k124_397 w_depth_k124_397)
noncomputable def shX7_plan_k124_306 (a1 : Int32) (a2 : Int32) (v_rest : Int32) (v_villages : Int32) (v_at : Int32) (w_way : Nat → Int32) (w_days_j_110 : Nat → Int32) (x3_124 : Int64) (x5_124 : Int32) (x6_124 : Int32) (x7_124 : Int32) (w_bestDepth_124 : Nat → Int32) (x8_k124_306 : Int32) (x10_k124_306 : Int32) (x11_k124_306 : Int32) (x12_k124_306 : Int32) (x13_k124_306 : Int64) (w_depth_k124_306 : Nat → Int32) : Option ((Int64 × Int32 × Int32 × Int32 × Int32 × (Nat → Int32) × (Nat → Int32)) ⊕ ((Int64 × Int32 × Int32 × Int32 × (Nat → Int32) × (Nat → Int32)))) :=
  (if a1 < x11_k124_306 then some (Sum.inl (x3_124, x5_124, x6_124, x7_124, x8_k124_306, w_depth_k124_306, w_bestDepth_124)) else (if x3_124 ≤ x13_k124_306 then ((shX7_through x10_k124_306 v_villages v_at w_way w_days_j_110).bind fun o_325 => (if o_325 < (9999 : Int32) then (if (o_325 + (x11_k124_306 + (v_rest * x12_k124_306))) ≤ a2 then (if x3_124 < x13_k124_306 then (shX7_plan_k124_393 v_villages x3_124 x5_124 x6_124 x7_124 w_bestDepth_124 x8_k124_306 x10_k124_306 x11_k124_306 x13_k124_306 (o_325 + (x11_k124_306 + (v_rest * x12_k124_306))) w_depth_k124_306) else (if x11_k124_306 < x5_124 then (shX7_plan_k124_393 v_villages x3_124 x5_124 x6_124 x7_124 w_bestDepth_124 x8_k124_306 x10_k124_306 x11_k124_306 x13_k124_306 (o_325 + (x11_k124_306 + (v_rest * x12_k124_306))) w_depth_k124_306) else (if ¬ x11_k124_306 = x5_124 then (shX7_plan_k124_397 v_villages x3_124 x5_124 x6_124 x7_124 w_bestDepth_124 x8_k124_306 x10_k124_306 x11_k124_306 x13_k124_306 (o_325 + (x11_k124_306 + (v_rest * x12_k124_306))) w_depth_k124_306) else (if x6_124 ≤ (o_325 + (x11_k124_306 + (v_rest * x12_k124_306))) then (shX7_plan_k124_397 v_villages x3_124 x5_124 x6_124 x7_124 w_bestDepth_124 x8_k124_306 x10_k124_306 x11_k124_306 x13_k124_306 (o_325 + (x11_k124_306 + (v_rest * x12_k124_306))) w_depth_k124_306) else (shX7_plan_k124_393 v_villages x3_124 x5_124 x6_124 x7_124 w_bestDepth_124 x8_k124_306 x10_k124_306 x11_k124_306 x13_k124_306 (o_325 + (x11_k124_306 + (v_rest * x12_k124_306))) w_depth_k124_306))))) else some (Sum.inl (x3_124, x5_124, x6_124, x7_124, x8_k124_306, w_depth_k124_306, w_bestDepth_124))) else some (Sum.inl (x3_124, x5_124, x6_124, x7_124, x8_k124_306, w_depth_k124_306, w_bestDepth_124)))) else some (Sum.inl (x3_124, x5_124, x6_124, x7_124, x8_k124_306, w_depth_k124_306, w_bestDepth_124))))
noncomputable def shX7_plan_k220_300 (x15_220 : Int32) (x10_k220_300 : Int32) (x11_k220_300 : Int32) (x12_k220_300 : Int32) (x13_k220_300 : Int64) : Option ((Int32 × Int32 × Int32 × Int64 × Int32) ⊕ ((Int32 × Int32 × Int32 × Int64))) :=
  some (Sum.inl (x10_k220_300, x11_k220_300, x12_k220_300, x13_k220_300, (x15_220 + (1 : Int32))))
noncomputable def shX7_plan_L220 (v_villages : Int32) (w_people : Nat → Int32) (w_hopes_j_110 : Nat → Int32) (x9_k124_184 : Int32) (w_depth_k124_184 : Nat → Int32) (x10_220 : Int32) (x11_220 : Int32) (x12_220 : Int32) (x13_220 : Int64) (x15_220 : Int32) : Option ((Int32 × Int32 × Int32 × Int64 × Int32) ⊕ ((Int32 × Int32 × Int32 × Int64))) :=
  (if v_villages < x15_220 then some (Sum.inr (x10_220, x11_220, x12_220, x13_220)) else ((gd x15_220 8).bind fun _ => (if ¬ ((upd w_depth_k124_184 (x9_k124_184).toNatClampNeg ((w_depth_k124_184 (x9_k124_184).toNatClampNeg) + (1 : Int32))) (x15_220).toNatClampNeg) = 0 then ((gd x15_220 8).bind fun _ => ((gd x15_220 8).bind fun _ => ((gd x15_220 8).bind fun _ => ((gd (((5 : Int32) * x15_220) + ((upd w_depth_k124_184 (x9_k124_184).toNatClampNeg ((w_depth_k124_184 (x9_k124_184).toNatClampNeg) + (1 : Int32))) (x15_220).toNatClampNeg)) 40).bind fun _ => (shX7_plan_k220_300 x15_220 (x10_220 ||| ((1 : Int32) <<< ((x15_220 - (1 : Int32)) &&& 31))) (x11_220 + ((upd w_depth_k124_184 (x9_k124_184).toNatClampNeg ((w_depth_k124_184 (x9_k124_184).toNatClampNeg) + (1 : Int32))) (x15_220).toNatClampNeg)) (x12_220 + (1 : Int32)) (x13_220 + (((w_people (x15_220).toNatClampNeg)).toInt64 * ((w_hopes_j_110 ((((5 : Int32) * x15_220) + ((upd w_depth_k124_184 (x9_k124_184).toNatClampNeg ((w_depth_k124_184 (x9_k124_184).toNatClampNeg) + (1 : Int32))) (x15_220).toNatClampNeg))).toNatClampNeg)).toInt64))))))) else (shX7_plan_k220_300 x15_220 x10_220 x11_220 x12_220 x13_220))))
noncomputable def shX7_plan_k124_184 (a1 : Int32) (a2 : Int32) (v_rest : Int32) (v_villages : Int32) (v_at : Int32) (w_people : Nat → Int32) (w_way : Nat → Int32) (w_days_j_110 : Nat → Int32) (w_hopes_j_110 : Nat → Int32) (x3_124 : Int64) (x5_124 : Int32) (x6_124 : Int32) (x7_124 : Int32) (w_bestDepth_124 : Nat → Int32) (s0_k124_184 : Int32) (x9_k124_184 : Int32) (w_depth_k124_184 : Nat → Int32) : Option ((Int64 × Int32 × Int32 × Int32 × Int32 × (Nat → Int32) × (Nat → Int32)) ⊕ ((Int64 × Int32 × Int32 × Int32 × (Nat → Int32) × (Nat → Int32)))) :=
  (if ¬ s0_k124_184 = 0 then ((gd x9_k124_184 8).bind fun _ => ((gd x9_k124_184 8).bind fun _ => ((lp (fun s : Int32 × Int32 × Int32 × Int64 × Int32 => shX7_plan_L220 v_villages w_people w_hopes_j_110 x9_k124_184 w_depth_k124_184 s.1 s.2.1 s.2.2.1 s.2.2.2.1 s.2.2.2.2) ((0 : Int32), (0 : Int32), (0 : Int32), (0 : Int64), (1 : Int32))).bind (fun p : Int32 × Int32 × Int32 × Int64 => shX7_plan_k124_306 a1 a2 v_rest v_villages v_at w_way w_days_j_110 x3_124 x5_124 x6_124 x7_124 w_bestDepth_124 s0_k124_184 p.1 p.2.1 p.2.2.1 p.2.2.2 (upd w_depth_k124_184 (x9_k124_184).toNatClampNeg ((w_depth_k124_184 (x9_k124_184).toNatClampNeg) + (1 : Int32))))))) else some (Sum.inl (x3_124, x5_124, x6_124, x7_124, s0_k124_184, w_depth_k124_184, w_bestDepth_124)))
noncomputable def shX7_plan_k124_174 (a1 : Int32) (a2 : Int32) (v_rest : Int32) (v_villages : Int32) (v_at : Int32) (w_people : Nat → Int32) (w_way : Nat → Int32) (w_days_j_110 : Nat → Int32) (w_hopes_j_110 : Nat → Int32) (x3_124 : Int64) (x5_124 : Int32) (x6_124 : Int32) (x7_124 : Int32) (w_bestDepth_124 : Nat → Int32) (x9_k124_174 : Int32) (w_depth_k124_174 : Nat → Int32) : Option ((Int64 × Int32 × Int32 × Int32 × Int32 × (Nat → Int32) × (Nat → Int32)) ⊕ ((Int64 × Int32 × Int32 × Int32 × (Nat → Int32) × (Nat → Int32)))) :=
  (if x9_k124_174 ≤ 0 then (shX7_plan_k124_184 a1 a2 v_rest v_villages v_at w_people w_way w_days_j_110 w_hopes_j_110 x3_124 x5_124 x6_124 x7_124 w_bestDepth_124 (0 : Int32) x9_k124_174 w_depth_k124_174) else (shX7_plan_k124_184 a1 a2 v_rest v_villages v_at w_people w_way w_days_j_110 w_hopes_j_110 x3_124 x5_124 x6_124 x7_124 w_bestDepth_124 (1 : Int32) x9_k124_174 w_depth_k124_174))
noncomputable def shX7_plan_k135_160 (x9_135 : Int32) (w_depth_135 : Nat → Int32) : Option ((Int32 × (Nat → Int32)) ⊕ ((Int32 × (Nat → Int32)))) :=
  ((gd x9_135 8).bind fun _ => some (Sum.inl ((x9_135 + (-1 : Int32)), (upd w_depth_135 (x9_135).toNatClampNeg (0 : Int32)))))
noncomputable def shX7_plan_L135 (v_dry : Int32) (w_bad : Nat → Int32) (w_well : Nat → Int32) (x9_135 : Int32) (w_depth_135 : Nat → Int32) : Option ((Int32 × (Nat → Int32)) ⊕ ((Int32 × (Nat → Int32)))) :=
  (if x9_135 ≤ 0 then some (Sum.inr (x9_135, w_depth_135)) else ((gd x9_135 8).bind fun _ => (if (w_depth_135 (x9_135).toNatClampNeg) = (4 : Int32) then (shX7_plan_k135_160 x9_135 w_depth_135) else ((shX7_isWanted x9_135 v_dry w_bad w_well).bind fun o_154 => (if ¬ o_154 = 0 then some (Sum.inr (x9_135, w_depth_135)) else (shX7_plan_k135_160 x9_135 w_depth_135))))))
noncomputable def shX7_plan_L124 (a1 : Int32) (a2 : Int32) (v_dry : Int32) (v_rest : Int32) (v_villages : Int32) (v_at : Int32) (w_people : Nat → Int32) (w_bad : Nat → Int32) (w_well : Nat → Int32) (w_way : Nat → Int32) (w_days_j_110 : Nat → Int32) (w_hopes_j_110 : Nat → Int32) (x3_124 : Int64) (x5_124 : Int32) (x6_124 : Int32) (x7_124 : Int32) (x8_124 : Int32) (w_depth_124 : Nat → Int32) (w_bestDepth_124 : Nat → Int32) : Option ((Int64 × Int32 × Int32 × Int32 × Int32 × (Nat → Int32) × (Nat → Int32)) ⊕ ((Int64 × Int32 × Int32 × Int32 × (Nat → Int32) × (Nat → Int32)))) :=
  (if x8_124 = 0 then some (Sum.inr (x3_124, x5_124, x6_124, x7_124, w_depth_124, w_bestDepth_124)) else ((lp (fun s : Int32 × (Nat → Int32) => shX7_plan_L135 v_dry w_bad w_well s.1 s.2) (v_villages, w_depth_124)).bind (fun p : Int32 × (Nat → Int32) => shX7_plan_k124_174 a1 a2 v_rest v_villages v_at w_people w_way w_days_j_110 w_hopes_j_110 x3_124 x5_124 x6_124 x7_124 w_bestDepth_124 p.1 p.2)))
noncomputable def shX7_plan_j_110 (a1 : Int32) (a2 : Int32) (v_dry : Int32) (v_rest : Int32) (v_villages : Int32) (v_at : Int32) (w_people : Nat → Int32) (w_bad : Nat → Int32) (w_well : Nat → Int32) (w_way : Nat → Int32) (w_planOf : Nat → Int32) (w_planDepth : Nat → Int32) (v_thrown_j_110 : Int32) (w_weight_j_110 : Nat → Int64) (w_days_j_110 : Nat → Int32) (w_depth_j_110 : Nat → Int32) (w_bestDepth_j_110 : Nat → Int32) (w_hopes_j_110 : Nat → Int32) : Option (Int64 × Int32 × Int32 × Int32 × Int32 × Int32 × (Nat → Int64) × (Nat → Int32) × (Nat → Int32) × (Nat → Int32) × (Nat → Int32) × (Nat → Int32) × (Nat → Int32)) :=
  ((lp (fun s : Int64 × Int32 × Int32 × Int32 × Int32 × (Nat → Int32) × (Nat → Int32) => shX7_plan_L124 a1 a2 v_dry v_rest v_villages v_at w_people w_bad w_well w_way w_days_j_110 w_hopes_j_110 s.1 s.2.1 s.2.2.1 s.2.2.2.1 s.2.2.2.2.1 s.2.2.2.2.2.1 s.2.2.2.2.2.2) ((0 : Int64), (0 : Int32), (0 : Int32), (0 : Int32), (1 : Int32), w_depth_j_110, w_bestDepth_j_110)).bind (fun p : Int64 × Int32 × Int32 × Int32 × (Nat → Int32) × (Nat → Int32) => shX7_plan_j_458 v_villages v_at w_way w_planOf w_planDepth p.1 p.2.1 p.2.2.1 p.2.2.2.1 v_thrown_j_110 w_weight_j_110 w_days_j_110 p.2.2.2.2.1 p.2.2.2.2.2 w_hopes_j_110))
noncomputable def shX7_plan_L84 (x3_84 : Int32) (w_depth_84 : Nat → Int32) (w_bestDepth_84 : Nat → Int32) : Option ((Int32 × (Nat → Int32) × (Nat → Int32)) ⊕ (((Nat → Int32) × (Nat → Int32)))) :=
  (if (8 : Int32) ≤ x3_84 then some (Sum.inr (w_depth_84, w_bestDepth_84)) else ((gd x3_84 8).bind fun _ => ((gd x3_84 8).bind fun _ => some (Sum.inl ((x3_84 + (1 : Int32)), (upd w_depth_84 (x3_84).toNatClampNeg (0 : Int32)), (upd w_bestDepth_84 (x3_84).toNatClampNeg (0 : Int32)))))))
noncomputable def shX7_plan_j_82 (a1 : Int32) (a2 : Int32) (v_dry : Int32) (v_rest : Int32) (v_villages : Int32) (v_at : Int32) (w_people : Nat → Int32) (w_bad : Nat → Int32) (w_well : Nat → Int32) (w_way : Nat → Int32) (w_depth : Nat → Int32) (w_bestDepth : Nat → Int32) (w_planOf : Nat → Int32) (w_planDepth : Nat → Int32) (v_thrown_j_82 : Int32) (w_weight_j_82 : Nat → Int64) (w_days_j_82 : Nat → Int32) (w_hopes_j_82 : Nat → Int32) : Option (Int64 × Int32 × Int32 × Int32 × Int32 × Int32 × (Nat → Int64) × (Nat → Int32) × (Nat → Int32) × (Nat → Int32) × (Nat → Int32) × (Nat → Int32) × (Nat → Int32)) :=
  ((lp (fun s : Int32 × (Nat → Int32) × (Nat → Int32) => shX7_plan_L84 s.1 s.2.1 s.2.2) ((0 : Int32), w_depth, w_bestDepth)).bind (fun p : (Nat → Int32) × (Nat → Int32) => shX7_plan_j_110 a1 a2 v_dry v_rest v_villages v_at w_people w_bad w_well w_way w_planOf w_planDepth v_thrown_j_82 w_weight_j_82 w_days_j_82 p.1 p.2 w_hopes_j_82))
noncomputable def shX7_plan_k35_76 (x3_35 : Int32) (w_weight_k35_76 : Nat → Int64) (w_hopes_k35_76 : Nat → Int32) : Option ((Int32 × (Nat → Int64) × (Nat → Int32)) ⊕ (((Nat → Int64) × (Nat → Int32)))) :=
  some (Sum.inl ((x3_35 + (1 : Int32)), w_weight_k35_76, w_hopes_k35_76))
noncomputable def shX7_plan_L46 (w_prior : Nat → Int32) (w_pipesIn : Nat → Int32) (w_pipe : Nat → Int32) (w_met : Nat → Int32) (w_chance : Nat → Int32) (w_rock : Nat → Int32) (x3_35 : Int32) (x4_46 : Int32) (w_weight_46 : Nat → Int64) (w_hopes_46 : Nat → Int32) : Option ((Int32 × (Nat → Int64) × (Nat → Int32)) ⊕ (((Nat → Int64) × (Nat → Int32)))) :=
  (if (5 : Int32) ≤ x4_46 then some (Sum.inr (w_weight_46, w_hopes_46)) else ((shX7_hopeOf x3_35 x4_46 w_prior w_pipesIn w_pipe w_met w_chance w_rock w_weight_46).bind fun o_66 => ((gd (((5 : Int32) * x3_35) + x4_46) 40).bind fun _ => some (Sum.inl ((x4_46 + (1 : Int32)), o_66.2, (upd w_hopes_46 ((((5 : Int32) * x3_35) + x4_46)).toNatClampNeg o_66.1))))))
noncomputable def shX7_plan_L35 (v_villages : Int32) (w_prior : Nat → Int32) (w_pipesIn : Nat → Int32) (w_pipe : Nat → Int32) (w_met : Nat → Int32) (w_chance : Nat → Int32) (w_rock : Nat → Int32) (x3_35 : Int32) (w_weight_35 : Nat → Int64) (w_hopes_35 : Nat → Int32) : Option ((Int32 × (Nat → Int64) × (Nat → Int32)) ⊕ (((Nat → Int64) × (Nat → Int32)))) :=
  (if v_villages < x3_35 then some (Sum.inr (w_weight_35, w_hopes_35)) else ((lp (fun s : Int32 × (Nat → Int64) × (Nat → Int32) => shX7_plan_L46 w_prior w_pipesIn w_pipe w_met w_chance w_rock x3_35 s.1 s.2.1 s.2.2) ((0 : Int32), w_weight_35, w_hopes_35)).bind (fun p : (Nat → Int64) × (Nat → Int32) => shX7_plan_k35_76 x3_35 p.1 p.2)))
noncomputable def shX7_plan (a1 : Int32) (a2 : Int32) (v_thrown : Int32) (v_dry : Int32) (v_rest : Int32) (v_villages : Int32) (v_at : Int32) (v_isPlan : Int32) (v_planMany : Int32) (v_planPipes : Int32) (v_planDays : Int32) (w_prior : Nat → Int32) (w_pipesIn : Nat → Int32) (w_pipe : Nat → Int32) (w_met : Nat → Int32) (w_chance : Nat → Int32) (w_rock : Nat → Int32) (w_people : Nat → Int32) (w_bad : Nat → Int32) (w_well : Nat → Int32) (w_way : Nat → Int32) (w_weight : Nat → Int64) (w_days : Nat → Int32) (w_depth : Nat → Int32) (w_bestDepth : Nat → Int32) (w_hopes : Nat → Int32) (w_planOf : Nat → Int32) (w_planDepth : Nat → Int32) : Option (Int64 × Int32 × Int32 × Int32 × Int32 × Int32 × (Nat → Int64) × (Nat → Int32) × (Nat → Int32) × (Nat → Int32) × (Nat → Int32) × (Nat → Int32) × (Nat → Int32)) :=
  (if a1 < 0 then some ((-1 : Int64), (0 : Int32), v_isPlan, v_planMany, v_planPipes, v_planDays, w_weight, w_days, w_depth, w_bestDepth, w_hopes, w_planOf, w_planDepth) else (if (28 : Int32) < a1 then some ((-1 : Int64), (0 : Int32), v_isPlan, v_planMany, v_planPipes, v_planDays, w_weight, w_days, w_depth, w_bestDepth, w_hopes, w_planOf, w_planDepth) else (if a2 < 0 then some ((-1 : Int64), (0 : Int32), v_isPlan, v_planMany, v_planPipes, v_planDays, w_weight, w_days, w_depth, w_bestDepth, w_hopes, w_planOf, w_planDepth) else (if a2 ≤ (99 : Int32) then ((shX7_ways w_way w_days).bind fun o_30 => ((lp (fun s : Int32 × (Nat → Int64) × (Nat → Int32) => shX7_plan_L35 v_villages w_prior w_pipesIn w_pipe w_met w_chance w_rock s.1 s.2.1 s.2.2) ((1 : Int32), w_weight, w_hopes)).bind (fun p : (Nat → Int64) × (Nat → Int32) => shX7_plan_j_82 a1 a2 v_dry v_rest v_villages v_at w_people w_bad w_well w_way w_depth w_bestDepth w_planOf w_planDepth (0 : Int32) p.1 o_30 p.2))) else some ((-1 : Int64), (0 : Int32), v_isPlan, v_planMany, v_planPipes, v_planDays, w_weight, w_days, w_depth, w_bestDepth, w_hopes, w_planOf, w_planDepth)))))
def wdX7_plan (cI cJ cZ : ClassId) (q_this q_tape q_prior q_pipesIn q_pipe q_met q_chance q_rock q_people q_bad q_well q_ends q_runs q_way q_words q_told q_weight q_days q_depth q_bestDepth q_hopes q_planOf q_planDepth : Nat) (v_tapeSize : Int32) (v_thrown : Int32) (v_salt : Int32) (v_dry : Int32) (v_rest : Int32) (v_fault : Int32) (v_faultPlace : Int32) (v_rocks : Int32) (v_villages : Int32) (v_day : Int32) (v_at : Int32) (v_allPipes : Int32) (v_end : Int32) (v_next : Int32) (v_kind : Int32) (v_which : Int32) (v_place : Int32) (v_isPlan : Int32) (v_planMany : Int32) (v_planPipes : Int32) (v_planDays : Int32) (w_prior : Nat → Int32) (w_pipesIn : Nat → Int32) (w_pipe : Nat → Int32) (w_met : Nat → Int32) (w_chance : Nat → Int32) (w_rock : Nat → Int32) (w_people : Nat → Int32) (w_bad : Nat → Int32) (w_well : Nat → Int32) (w_way : Nat → Int32) (w_weight : Nat → Int64) (w_days : Nat → Int32) (w_depth : Nat → Int32) (w_bestDepth : Nat → Int32) (w_hopes : Nat → Int32) (w_planOf : Nat → Int32) (w_planDepth : Nat → Int32) : va_W := [(q_this, .inr (7, [.ref q_tape, .int v_tapeSize, .int v_thrown, .int v_salt, .int v_dry, .int v_rest, .int v_fault, .int v_faultPlace, .int v_rocks, .ref q_prior, .ref q_pipesIn, .ref q_pipe, .ref q_met, .ref q_chance, .int v_villages, .ref q_rock, .ref q_people, .ref q_bad, .ref q_well, .ref q_ends, .ref q_runs, .ref q_way, .int v_day, .int v_at, .int v_allPipes, .ref q_words, .int v_end, .int v_next, .int v_kind, .int v_which, .int v_place, .ref q_told, .ref q_weight, .ref q_days, .ref q_depth, .ref q_bestDepth, .ref q_hopes, .int v_isPlan, .int v_planMany, .int v_planPipes, .int v_planDays, .ref q_planOf, .ref q_planDepth])), (q_prior, .inl (cI, 12, .inl w_prior)), (q_pipesIn, .inl (cI, 4, .inl w_pipesIn)), (q_pipe, .inl (cI, 32, .inl w_pipe)), (q_met, .inl (cZ, 32, .inl w_met)), (q_chance, .inl (cI, 15, .inl w_chance)), (q_rock, .inl (cI, 8, .inl w_rock)), (q_people, .inl (cI, 8, .inl w_people)), (q_bad, .inl (cI, 8, .inl w_bad)), (q_well, .inl (cI, 8, .inl w_well)), (q_way, .inl (cI, 64, .inl w_way)), (q_weight, .inl (cJ, 3, .inr (.inl w_weight))), (q_days, .inl (cI, 1024, .inl w_days)), (q_depth, .inl (cI, 8, .inl w_depth)), (q_bestDepth, .inl (cI, 8, .inl w_bestDepth)), (q_hopes, .inl (cI, 40, .inl w_hopes)), (q_planOf, .inl (cI, 7, .inl w_planOf)), (q_planDepth, .inl (cI, 7, .inl w_planDepth))]
abbrev rmX7_plan : Room := { frames := 3, cells := 0, slots := 0, locals := 66 }
theorem inX7_plan_X7 : ∀ w ∈ u_ws RX7 TX7 43, w ∈ wsX7_plan := fun _ h => List.mem_cons_of_mem _ (List.mem_append_right _ h)
theorem lkX7_plan_88 : Cond.fieldLink RX7 88 (TX7 2).1 (TX7 2).2.1 (TX7 2).2.2.1 ∈ wsX7_plan := List.mem_of_getElem? (i := 1) rfl
theorem lkX7_plan_191 : Cond.fieldLink RX7 191 (TX7 37).1 (TX7 37).2.1 (TX7 37).2.2.1 ∈ wsX7_plan := List.mem_of_getElem? (i := 9) rfl
theorem lkX7_plan_195 : Cond.fieldLink RX7 195 (TX7 39).1 (TX7 39).2.1 (TX7 39).2.2.1 ∈ wsX7_plan := List.mem_of_getElem? (i := 10) rfl
theorem lkX7_plan_198 : Cond.fieldLink RX7 198 (TX7 40).1 (TX7 40).2.1 (TX7 40).2.2.1 ∈ wsX7_plan := List.mem_of_getElem? (i := 11) rfl
theorem lkX7_plan_201 : Cond.fieldLink RX7 201 (TX7 38).1 (TX7 38).2.1 (TX7 38).2.2.1 ∈ wsX7_plan := List.mem_of_getElem? (i := 12) rfl
theorem lkX7_plan_70 : Cond.fieldLink RX7 70 (TX7 33).1 (TX7 33).2.1 (TX7 33).2.2.1 ∈ wsX7_plan := List.mem_of_getElem? (i := 13) rfl
theorem lkX7_plan_82 : Cond.fieldLink RX7 82 (TX7 41).1 (TX7 41).2.1 (TX7 41).2.2.1 ∈ wsX7_plan := List.mem_of_getElem? (i := 15) rfl
theorem lkX7_plan_85 : Cond.fieldLink RX7 85 (TX7 42).1 (TX7 42).2.1 (TX7 42).2.2.1 ∈ wsX7_plan := List.mem_of_getElem? (i := 16) rfl
theorem lkX7_plan_76 : Cond.fieldLink RX7 76 (TX7 35).1 (TX7 35).2.1 (TX7 35).2.2.1 ∈ wsX7_plan := List.mem_of_getElem? (i := 6) rfl
theorem lkX7_plan_57 : Cond.fieldLink RX7 57 (TX7 21).1 (TX7 21).2.1 (TX7 21).2.2.1 ∈ wsX7_plan := List.mem_of_getElem? (i := 14) rfl
theorem lkX7_plan_143 : Cond.fieldLink RX7 143 (TX7 14).1 (TX7 14).2.1 (TX7 14).2.2.1 ∈ wsX7_plan := List.mem_of_getElem? (i := 3) rfl
theorem lkX7_plan_73 : Cond.fieldLink RX7 73 (TX7 34).1 (TX7 34).2.1 (TX7 34).2.2.1 ∈ wsX7_plan := List.mem_of_getElem? (i := 5) rfl
theorem lkX7_plan_134 : Cond.fieldLink RX7 134 (TX7 5).1 (TX7 5).2.1 (TX7 5).2.2.1 ∈ wsX7_plan := List.mem_of_getElem? (i := 8) rfl
theorem lkX7_plan_42 : Cond.fieldLink RX7 42 (TX7 16).1 (TX7 16).2.1 (TX7 16).2.2.1 ∈ wsX7_plan := List.mem_of_getElem? (i := 7) rfl
theorem lkX7_plan_79 : Cond.fieldLink RX7 79 (TX7 36).1 (TX7 36).2.1 (TX7 36).2.2.1 ∈ wsX7_plan := List.mem_of_getElem? (i := 4) rfl
theorem hdX7_plan : yX7_plan.cls = RX7 ∧ yX7_plan.cls ≠ "java/lang/invoke/MethodHandle" ∧ yX7_plan.cls ≠ "java/lang/invoke/VarHandle" ∧ (parseMethodDescriptor yX7_plan.desc).map (fun d => d.parameters.length) = some 2 := by decide +kernel
set_option maxHeartbeats 4000000 in
set_option maxRecDepth 100000 in
theorem ctX7_plan (l : Launch) (D : va_G) (cI cJ cZ : ClassId) (q_this q_tape q_prior q_pipesIn q_pipe q_met q_chance q_rock q_people q_bad q_well q_ends q_runs q_way q_words q_told q_weight q_days q_depth q_bestDepth q_hopes q_planOf q_planDepth : Nat) (v_tapeSize : Int32) (v_thrown : Int32) (v_salt : Int32) (v_dry : Int32) (v_rest : Int32) (v_fault : Int32) (v_faultPlace : Int32) (v_rocks : Int32) (v_villages : Int32) (v_day : Int32) (v_at : Int32) (v_allPipes : Int32) (v_end : Int32) (v_next : Int32) (v_kind : Int32) (v_which : Int32) (v_place : Int32) (v_isPlan : Int32) (v_planMany : Int32) (v_planPipes : Int32) (v_planDays : Int32) (w_prior : Nat → Int32) (w_pipesIn : Nat → Int32) (w_pipe : Nat → Int32) (w_met : Nat → Int32) (w_chance : Nat → Int32) (w_rock : Nat → Int32) (w_people : Nat → Int32) (w_bad : Nat → Int32) (w_well : Nat → Int32) (w_way : Nat → Int32) (w_weight : Nat → Int64) (w_days : Nat → Int32) (w_depth : Nat → Int32) (w_bestDepth : Nat → Int32) (w_hopes : Nat → Int32) (w_planOf : Nat → Int32) (w_planDepth : Nat → Int32) (a1 : Int32) (a2 : Int32) (o : Int64 × Int32 × Int32 × Int32 × Int32 × Int32 × (Nat → Int64) × (Nat → Int32) × (Nat → Int32) × (Nat → Int32) × (Nat → Int32) × (Nat → Int32) × (Nat → Int32)) (hsh : shX7_plan a1 a2 v_thrown v_dry v_rest v_villages v_at v_isPlan v_planMany v_planPipes v_planDays w_prior w_pipesIn w_pipe w_met w_chance w_rock w_people w_bad w_well w_way w_weight w_days w_depth w_bestDepth w_hopes w_planOf w_planDepth = some o) : CtL l yX7_plan wsX7_plan rmX7_plan D (tys3 cI cJ cZ) noE (wdX7_plan cI cJ cZ q_this q_tape q_prior q_pipesIn q_pipe q_met q_chance q_rock q_people q_bad q_well q_ends q_runs q_way q_words q_told q_weight q_days q_depth q_bestDepth q_hopes q_planOf q_planDepth v_tapeSize v_thrown v_salt v_dry v_rest v_fault v_faultPlace v_rocks v_villages v_day v_at v_allPipes v_end v_next v_kind v_which v_place v_isPlan v_planMany v_planPipes v_planDays w_prior w_pipesIn w_pipe w_met w_chance w_rock w_people w_bad w_well w_way w_weight w_days w_depth w_bestDepth w_hopes w_planOf w_planDepth) [.ref q_this, .int a1, .int a2] o.1 (wdX7_plan cI cJ cZ q_this q_tape q_prior q_pipesIn q_pipe q_met q_chance q_rock q_people q_bad q_well q_ends q_runs q_way q_words q_told q_weight q_days q_depth q_bestDepth q_hopes q_planOf q_planDepth v_tapeSize o.2.1 v_salt v_dry v_rest v_fault v_faultPlace v_rocks v_villages v_day v_at v_allPipes v_end v_next v_kind v_which v_place o.2.2.1 o.2.2.2.1 o.2.2.2.2.1 o.2.2.2.2.2.1 w_prior w_pipesIn w_pipe w_met w_chance w_rock w_people w_bad w_well w_way o.2.2.2.2.2.2.1 o.2.2.2.2.2.2.2.1 o.2.2.2.2.2.2.2.2.1 o.2.2.2.2.2.2.2.2.2.1 o.2.2.2.2.2.2.2.2.2.2.1 o.2.2.2.2.2.2.2.2.2.2.2.1 o.2.2.2.2.2.2.2.2.2.2.2.2) := by
  refine ctL plX7 rfl (Nat.le_of_ble_eq_true rfl) ?_
  intro p e s m below meth c A Q S hK hA hE hret H locs hP hD hS ls hl
  replace S : CallFix p m c cX7_plan 18 s _ wsX7_plan RX7 := S
  generalize ([.ref q_this, .int a1, .int a2] : List Value).toArray = args at S hret ⊢
  obtain ⟨hx, hb, hml, hown, hts⟩ := id S
  replace hl : lv_has ls 18 [(0, .ref q_this), (1, .int a1), (2, .int a2)] := hl
  unfold shX7_plan at hsh
  have Jj_658 : ∀ (x3_j_658 : Int64) (v_thrown_j_658 : Int32) (v_isPlan_j_658 : Int32) (v_planMany_j_658 : Int32) (v_planPipes_j_658 : Int32) (v_planDays_j_658 : Int32) (w_weight_j_658 : Nat → Int64) (w_days_j_658 : Nat → Int32) (w_depth_j_658 : Nat → Int32) (w_bestDepth_j_658 : Nat → Int32) (w_hopes_j_658 : Nat → Int32) (w_planOf_j_658 : Nat → Int32) (w_planDepth_j_658 : Nat → Int32) (H : Heap) (locs : List Loc), va_P D vwCl (wdX7_plan cI cJ cZ q_this q_tape q_prior q_pipesIn q_pipe q_met q_chance q_rock q_people q_bad q_well q_ends q_runs q_way q_words q_told q_weight q_days q_depth q_bestDepth q_hopes q_planOf q_planDepth v_tapeSize v_thrown_j_658 v_salt v_dry v_rest v_fault v_faultPlace v_rocks v_villages v_day v_at v_allPipes v_end v_next v_kind v_which v_place v_isPlan_j_658 v_planMany_j_658 v_planPipes_j_658 v_planDays_j_658 w_prior w_pipesIn w_pipe w_met w_chance w_rock w_people w_bad w_well w_way w_weight_j_658 w_days_j_658 w_depth_j_658 w_bestDepth_j_658 w_hopes_j_658 w_planOf_j_658 w_planDepth_j_658) H → va_D A (wdX7_plan cI cJ cZ q_this q_tape q_prior q_pipesIn q_pipe q_met q_chance q_rock q_people q_bad q_well q_ends q_runs q_way q_words q_told q_weight q_days q_depth q_bestDepth q_hopes q_planOf q_planDepth v_tapeSize v_thrown_j_658 v_salt v_dry v_rest v_fault v_faultPlace v_rocks v_villages v_day v_at v_allPipes v_end v_next v_kind v_which v_place v_isPlan_j_658 v_planMany_j_658 v_planPipes_j_658 v_planDays_j_658 w_prior w_pipesIn w_pipe w_met w_chance w_rock w_people w_bad w_well w_way w_weight_j_658 w_days_j_658 w_depth_j_658 w_bestDepth_j_658 w_hopes_j_658 w_planOf_j_658 w_planDepth_j_658) → va_S A s.heap H locs → ∀ ls : Array Slot, lv_has ls 18 [(3, .long x3_j_658)] → shX7_plan_j_658 x3_j_658 v_thrown_j_658 v_isPlan_j_658 v_planMany_j_658 v_planPipes_j_658 v_planDays_j_658 w_weight_j_658 w_days_j_658 w_depth_j_658 w_bestDepth_j_658 w_hopes_j_658 w_planOf_j_658 w_planDepth_j_658 = some o → W p l e rmX7_plan s m args below meth c H locs 0 0 Q (F0 m 658 ls []) := by
    intro x3_j_658 v_thrown_j_658 v_isPlan_j_658 v_planMany_j_658 v_planPipes_j_658 v_planDays_j_658 w_weight_j_658 w_days_j_658 w_depth_j_658 w_bestDepth_j_658 w_hopes_j_658 w_planOf_j_658 w_planDepth_j_658 H locs hP hD hS ls hl hsh
    unfold shX7_plan_j_658 at hsh
    refine lv_lload_n hx hb dX7_plan_658 rfl (lv_at hl 0 rfl) ?_
    have ho := Option.some.inj hsh
    rw [← ho] at hret
    exact hret _ _ _ _ dX7_plan_659 hP hD hS
  have Jj_458 : ∀ (x3_j_458 : Int64) (x5_j_458 : Int32) (x6_j_458 : Int32) (x7_j_458 : Int32) (v_thrown_j_458 : Int32) (w_weight_j_458 : Nat → Int64) (w_days_j_458 : Nat → Int32) (w_depth_j_458 : Nat → Int32) (w_bestDepth_j_458 : Nat → Int32) (w_hopes_j_458 : Nat → Int32) (H : Heap) (locs : List Loc), va_P D vwCl (wdX7_plan cI cJ cZ q_this q_tape q_prior q_pipesIn q_pipe q_met q_chance q_rock q_people q_bad q_well q_ends q_runs q_way q_words q_told q_weight q_days q_depth q_bestDepth q_hopes q_planOf q_planDepth v_tapeSize v_thrown_j_458 v_salt v_dry v_rest v_fault v_faultPlace v_rocks v_villages v_day v_at v_allPipes v_end v_next v_kind v_which v_place v_isPlan v_planMany v_planPipes v_planDays w_prior w_pipesIn w_pipe w_met w_chance w_rock w_people w_bad w_well w_way w_weight_j_458 w_days_j_458 w_depth_j_458 w_bestDepth_j_458 w_hopes_j_458 w_planOf w_planDepth) H → va_D A (wdX7_plan cI cJ cZ q_this q_tape q_prior q_pipesIn q_pipe q_met q_chance q_rock q_people q_bad q_well q_ends q_runs q_way q_words q_told q_weight q_days q_depth q_bestDepth q_hopes q_planOf q_planDepth v_tapeSize v_thrown_j_458 v_salt v_dry v_rest v_fault v_faultPlace v_rocks v_villages v_day v_at v_allPipes v_end v_next v_kind v_which v_place v_isPlan v_planMany v_planPipes v_planDays w_prior w_pipesIn w_pipe w_met w_chance w_rock w_people w_bad w_well w_way w_weight_j_458 w_days_j_458 w_depth_j_458 w_bestDepth_j_458 w_hopes_j_458 w_planOf w_planDepth) → va_S A s.heap H locs → ∀ ls : Array Slot, lv_has ls 18 [(0, .ref q_this), (3, .long x3_j_458), (5, .int x5_j_458), (6, .int x6_j_458), (7, .int x7_j_458)] → shX7_plan_j_458 v_villages v_at w_way w_planOf w_planDepth x3_j_458 x5_j_458 x6_j_458 x7_j_458 v_thrown_j_458 w_weight_j_458 w_days_j_458 w_depth_j_458 w_bestDepth_j_458 w_hopes_j_458 = some o → W p l e rmX7_plan s m args below meth c H locs 0 0 Q (F0 m 458 ls []) := by
    intro x3_j_458 x5_j_458 x6_j_458 x7_j_458 v_thrown_j_458 w_weight_j_458 w_days_j_458 w_depth_j_458 w_bestDepth_j_458 w_hopes_j_458 H locs hP hD hS ls hl hsh
    unfold shX7_plan_j_458 at hsh
    refine lv_aload_n hx hb dX7_plan_458 rfl (lv_at hl 0 rfl) ?_
    refine lv_iconst (v := (1 : Int32)) hx hb dX7_plan_459 (by decide) ?_
    refine kput (ci := 7) S hK hP hD hS rfl inX7_plan_X7 tyX7_ok nmX7 0 rfl 37 (by decide) lkX7_plan_191 rfl rfl rfl (Nat.le_of_ble_eq_true rfl) (ws' := (wdX7_plan cI cJ cZ q_this q_tape q_prior q_pipesIn q_pipe q_met q_chance q_rock q_people q_bad q_well q_ends q_runs q_way q_words q_told q_weight q_days q_depth q_bestDepth q_hopes q_planOf q_planDepth v_tapeSize v_thrown_j_458 v_salt v_dry v_rest v_fault v_faultPlace v_rocks v_villages v_day v_at v_allPipes v_end v_next v_kind v_which v_place (1 : Int32) v_planMany v_planPipes v_planDays w_prior w_pipesIn w_pipe w_met w_chance w_rock w_people w_bad w_well w_way w_weight_j_458 w_days_j_458 w_depth_j_458 w_bestDepth_j_458 w_hopes_j_458 w_planOf w_planDepth)) rfl dX7_plan_460 (fun H locs hP hD hS => ?_)
    refine lv_aload_n hx hb dX7_plan_463 rfl (lv_at hl 0 rfl) ?_
    refine lv_iload hx hb dX7_plan_464 (lv_at hl 2 rfl) ?_
    refine kput (ci := 7) S hK hP hD hS rfl inX7_plan_X7 tyX7_ok nmX7 0 rfl 39 (by decide) lkX7_plan_195 rfl rfl rfl (Nat.le_of_ble_eq_true rfl) (ws' := (wdX7_plan cI cJ cZ q_this q_tape q_prior q_pipesIn q_pipe q_met q_chance q_rock q_people q_bad q_well q_ends q_runs q_way q_words q_told q_weight q_days q_depth q_bestDepth q_hopes q_planOf q_planDepth v_tapeSize v_thrown_j_458 v_salt v_dry v_rest v_fault v_faultPlace v_rocks v_villages v_day v_at v_allPipes v_end v_next v_kind v_which v_place (1 : Int32) v_planMany x5_j_458 v_planDays w_prior w_pipesIn w_pipe w_met w_chance w_rock w_people w_bad w_well w_way w_weight_j_458 w_days_j_458 w_depth_j_458 w_bestDepth_j_458 w_hopes_j_458 w_planOf w_planDepth)) rfl dX7_plan_466 (fun H locs hP hD hS => ?_)
    refine lv_aload_n hx hb dX7_plan_469 rfl (lv_at hl 0 rfl) ?_
    refine lv_iload hx hb dX7_plan_470 (lv_at hl 3 rfl) ?_
    refine kput (ci := 7) S hK hP hD hS rfl inX7_plan_X7 tyX7_ok nmX7 0 rfl 40 (by decide) lkX7_plan_198 rfl rfl rfl (Nat.le_of_ble_eq_true rfl) (ws' := (wdX7_plan cI cJ cZ q_this q_tape q_prior q_pipesIn q_pipe q_met q_chance q_rock q_people q_bad q_well q_ends q_runs q_way q_words q_told q_weight q_days q_depth q_bestDepth q_hopes q_planOf q_planDepth v_tapeSize v_thrown_j_458 v_salt v_dry v_rest v_fault v_faultPlace v_rocks v_villages v_day v_at v_allPipes v_end v_next v_kind v_which v_place (1 : Int32) v_planMany x5_j_458 x6_j_458 w_prior w_pipesIn w_pipe w_met w_chance w_rock w_people w_bad w_well w_way w_weight_j_458 w_days_j_458 w_depth_j_458 w_bestDepth_j_458 w_hopes_j_458 w_planOf w_planDepth)) rfl dX7_plan_472 (fun H locs hP hD hS => ?_)
    refine lv_aload_n hx hb dX7_plan_475 rfl (lv_at hl 0 rfl) ?_
    refine lv_iconst (v := (0 : Int32)) hx hb dX7_plan_476 (by decide) ?_
    refine kput (ci := 7) S hK hP hD hS rfl inX7_plan_X7 tyX7_ok nmX7 0 rfl 38 (by decide) lkX7_plan_201 rfl rfl rfl (Nat.le_of_ble_eq_true rfl) (ws' := (wdX7_plan cI cJ cZ q_this q_tape q_prior q_pipesIn q_pipe q_met q_chance q_rock q_people q_bad q_well q_ends q_runs q_way q_words q_told q_weight q_days q_depth q_bestDepth q_hopes q_planOf q_planDepth v_tapeSize v_thrown_j_458 v_salt v_dry v_rest v_fault v_faultPlace v_rocks v_villages v_day v_at v_allPipes v_end v_next v_kind v_which v_place (1 : Int32) (0 : Int32) x5_j_458 x6_j_458 w_prior w_pipesIn w_pipe w_met w_chance w_rock w_people w_bad w_well w_way w_weight_j_458 w_days_j_458 w_depth_j_458 w_bestDepth_j_458 w_hopes_j_458 w_planOf w_planDepth)) rfl dX7_plan_477 (fun H locs hP hD hS => ?_)
    refine lv_iconst (v := (-1 : Int32)) hx hb dX7_plan_480 (by decide) ?_
    refine lv_istore (lv' := [(9, .int (-1 : Int32)), (0, .ref q_this), (3, .long x3_j_458), (5, .int x5_j_458), (6, .int x6_j_458), (7, .int x7_j_458)]) hx hb dX7_plan_481 hl (by decide) rfl (fun ls hl => ?_)
    refine lv_iload hx hb dX7_plan_483 (lv_at hl 5 rfl) ?_
    refine lv_istore (lv' := [(10, .int x7_j_458), (9, .int (-1 : Int32)), (0, .ref q_this), (3, .long x3_j_458), (5, .int x5_j_458), (6, .int x6_j_458), (7, .int x7_j_458)]) hx hb dX7_plan_485 hl (by decide) rfl (fun ls hl => ?_)
    obtain ⟨r_487, hl_487, hk_487⟩ := bd hsh
    obtain ⟨n_487, hn_487⟩ := lp_iff.mp hl_487
    have L_487 : ∀ (n : Nat) (x9_487 : Int32) (x10_487 : Int32) (v_planMany_487 : Int32) (w_planOf_487 : Nat → Int32) (w_planDepth_487 : Nat → Int32) (H : Heap) (locs : List Loc), va_P D vwCl (wdX7_plan cI cJ cZ q_this q_tape q_prior q_pipesIn q_pipe q_met q_chance q_rock q_people q_bad q_well q_ends q_runs q_way q_words q_told q_weight q_days q_depth q_bestDepth q_hopes q_planOf q_planDepth v_tapeSize v_thrown_j_458 v_salt v_dry v_rest v_fault v_faultPlace v_rocks v_villages v_day v_at v_allPipes v_end v_next v_kind v_which v_place (1 : Int32) v_planMany_487 x5_j_458 x6_j_458 w_prior w_pipesIn w_pipe w_met w_chance w_rock w_people w_bad w_well w_way w_weight_j_458 w_days_j_458 w_depth_j_458 w_bestDepth_j_458 w_hopes_j_458 w_planOf_487 w_planDepth_487) H → va_D A (wdX7_plan cI cJ cZ q_this q_tape q_prior q_pipesIn q_pipe q_met q_chance q_rock q_people q_bad q_well q_ends q_runs q_way q_words q_told q_weight q_days q_depth q_bestDepth q_hopes q_planOf q_planDepth v_tapeSize v_thrown_j_458 v_salt v_dry v_rest v_fault v_faultPlace v_rocks v_villages v_day v_at v_allPipes v_end v_next v_kind v_which v_place (1 : Int32) v_planMany_487 x5_j_458 x6_j_458 w_prior w_pipesIn w_pipe w_met w_chance w_rock w_people w_bad w_well w_way w_weight_j_458 w_days_j_458 w_depth_j_458 w_bestDepth_j_458 w_hopes_j_458 w_planOf_487 w_planDepth_487) → va_S A s.heap H locs → ∀ ls : Array Slot, lv_has ls 18 [(0, .ref q_this), (3, .long x3_j_458), (9, .int x9_487), (10, .int x10_487)] → it (fun s : Int32 × Int32 × Int32 × (Nat → Int32) × (Nat → Int32) => shX7_plan_L487 v_villages v_at w_way w_days_j_458 w_bestDepth_j_458 s.1 s.2.1 s.2.2.1 s.2.2.2.1 s.2.2.2.2) n (x9_487, x10_487, v_planMany_487, w_planOf_487, w_planDepth_487) = some r_487 → W p l e rmX7_plan s m args below meth c H locs 0 0 Q (F0 m 487 ls []) := by
      intro n
      induction n with
      | zero => exact fun _ _ _ _ _ _ _ _ _ _ _ _ hi => it_0 hi
      | succ n ih_487 =>
        intro x9_487 x10_487 v_planMany_487 w_planOf_487 w_planDepth_487 H locs hP hD hS ls hl hi
        obtain ⟨b_487, hsh, hB1_487, hB2_487⟩ := it_b hi
        replace hsh : shX7_plan_L487 v_villages v_at w_way w_days_j_458 w_bestDepth_j_458 x9_487 x10_487 v_planMany_487 w_planOf_487 w_planDepth_487 = some b_487 := hsh
        unfold shX7_plan_L487 at hsh
        have Jk487_601 : ∀ (x12_k487_601 : Int32) (H : Heap) (locs : List Loc), va_P D vwCl (wdX7_plan cI cJ cZ q_this q_tape q_prior q_pipesIn q_pipe q_met q_chance q_rock q_people q_bad q_well q_ends q_runs q_way q_words q_told q_weight q_days q_depth q_bestDepth q_hopes q_planOf q_planDepth v_tapeSize v_thrown_j_458 v_salt v_dry v_rest v_fault v_faultPlace v_rocks v_villages v_day v_at v_allPipes v_end v_next v_kind v_which v_place (1 : Int32) v_planMany_487 x5_j_458 x6_j_458 w_prior w_pipesIn w_pipe w_met w_chance w_rock w_people w_bad w_well w_way w_weight_j_458 w_days_j_458 w_depth_j_458 w_bestDepth_j_458 w_hopes_j_458 w_planOf_487 w_planDepth_487) H → va_D A (wdX7_plan cI cJ cZ q_this q_tape q_prior q_pipesIn q_pipe q_met q_chance q_rock q_people q_bad q_well q_ends q_runs q_way q_words q_told q_weight q_days q_depth q_bestDepth q_hopes q_planOf q_planDepth v_tapeSize v_thrown_j_458 v_salt v_dry v_rest v_fault v_faultPlace v_rocks v_villages v_day v_at v_allPipes v_end v_next v_kind v_which v_place (1 : Int32) v_planMany_487 x5_j_458 x6_j_458 w_prior w_pipesIn w_pipe w_met w_chance w_rock w_people w_bad w_well w_way w_weight_j_458 w_days_j_458 w_depth_j_458 w_bestDepth_j_458 w_hopes_j_458 w_planOf_487 w_planDepth_487) → va_S A s.heap H locs → ∀ ls : Array Slot, lv_has ls 18 [(0, .ref q_this), (3, .long x3_j_458), (10, .int x10_487), (12, .int x12_k487_601)] → shX7_plan_k487_601 w_bestDepth_j_458 x10_487 v_planMany_487 w_planOf_487 w_planDepth_487 x12_k487_601 = some b_487 → W p l e rmX7_plan s m args below meth c H locs 0 0 Q (F0 m 601 ls []) := by
          intro x12_k487_601 H locs hP hD hS ls hl hsh
          unfold shX7_plan_k487_601 at hsh
          refine lv_aload_n hx hb dX7_plan_601 rfl (lv_at hl 0 rfl) ?_
          refine kget (ci := 7) S hK hP rfl inX7_plan_X7 0 rfl 41 (by decide) lkX7_plan_82 rfl dX7_plan_602 ?_
          refine lv_aload_n hx hb dX7_plan_605 rfl (lv_at hl 0 rfl) ?_
          refine kget (ci := 7) S hK hP rfl inX7_plan_X7 0 rfl 38 (by decide) lkX7_plan_201 rfl dX7_plan_606 ?_
          refine lv_iload hx hb dX7_plan_609 (lv_at hl 3 rfl) ?_
          obtain ⟨_, hg, hsh⟩ := bd hsh
          refine kias S hK hP hD hS 16 0 rfl rfl (gd_in hg) (ws' := (wdX7_plan cI cJ cZ q_this q_tape q_prior q_pipesIn q_pipe q_met q_chance q_rock q_people q_bad q_well q_ends q_runs q_way q_words q_told q_weight q_days q_depth q_bestDepth q_hopes q_planOf q_planDepth v_tapeSize v_thrown_j_458 v_salt v_dry v_rest v_fault v_faultPlace v_rocks v_villages v_day v_at v_allPipes v_end v_next v_kind v_which v_place (1 : Int32) v_planMany_487 x5_j_458 x6_j_458 w_prior w_pipesIn w_pipe w_met w_chance w_rock w_people w_bad w_well w_way w_weight_j_458 w_days_j_458 w_depth_j_458 w_bestDepth_j_458 w_hopes_j_458 (upd w_planOf_487 (v_planMany_487).toNatClampNeg x12_k487_601) w_planDepth_487)) rfl dX7_plan_611 (fun H locs hP hD hS => ?_)
          refine lv_aload_n hx hb dX7_plan_612 rfl (lv_at hl 0 rfl) ?_
          refine kget (ci := 7) S hK hP rfl inX7_plan_X7 0 rfl 42 (by decide) lkX7_plan_85 rfl dX7_plan_613 ?_
          refine lv_aload_n hx hb dX7_plan_616 rfl (lv_at hl 0 rfl) ?_
          refine kget (ci := 7) S hK hP rfl inX7_plan_X7 0 rfl 38 (by decide) lkX7_plan_201 rfl dX7_plan_617 ?_
          refine lv_aload_n hx hb dX7_plan_620 rfl (lv_at hl 0 rfl) ?_
          refine kget (ci := 7) S hK hP rfl inX7_plan_X7 0 rfl 35 (by decide) lkX7_plan_76 rfl dX7_plan_621 ?_
          refine lv_iload hx hb dX7_plan_624 (lv_at hl 3 rfl) ?_
          obtain ⟨_, hg, hsh⟩ := bd hsh
          refine kial S hK hP 14 0 rfl rfl (gd_in hg) dX7_plan_626 ?_
          obtain ⟨_, hg, hsh⟩ := bd hsh
          refine kias S hK hP hD hS 17 0 rfl rfl (gd_in hg) (ws' := (wdX7_plan cI cJ cZ q_this q_tape q_prior q_pipesIn q_pipe q_met q_chance q_rock q_people q_bad q_well q_ends q_runs q_way q_words q_told q_weight q_days q_depth q_bestDepth q_hopes q_planOf q_planDepth v_tapeSize v_thrown_j_458 v_salt v_dry v_rest v_fault v_faultPlace v_rocks v_villages v_day v_at v_allPipes v_end v_next v_kind v_which v_place (1 : Int32) v_planMany_487 x5_j_458 x6_j_458 w_prior w_pipesIn w_pipe w_met w_chance w_rock w_people w_bad w_well w_way w_weight_j_458 w_days_j_458 w_depth_j_458 w_bestDepth_j_458 w_hopes_j_458 (upd w_planOf_487 (v_planMany_487).toNatClampNeg x12_k487_601) (upd w_planDepth_487 (v_planMany_487).toNatClampNeg (w_bestDepth_j_458 (x12_k487_601).toNatClampNeg)))) rfl dX7_plan_627 (fun H locs hP hD hS => ?_)
          refine lv_aload_n hx hb dX7_plan_628 rfl (lv_at hl 0 rfl) ?_
          refine lv_dup hx hb dX7_plan_629 rfl ?_
          refine kget (ci := 7) S hK hP rfl inX7_plan_X7 0 rfl 38 (by decide) lkX7_plan_201 rfl dX7_plan_630 ?_
          refine lv_iconst (v := (1 : Int32)) hx hb dX7_plan_633 (by decide) ?_
          refine lv_iadd hx hb dX7_plan_634 ?_
          refine kput (ci := 7) S hK hP hD hS rfl inX7_plan_X7 tyX7_ok nmX7 0 rfl 38 (by decide) lkX7_plan_201 rfl rfl rfl (Nat.le_of_ble_eq_true rfl) (ws' := (wdX7_plan cI cJ cZ q_this q_tape q_prior q_pipesIn q_pipe q_met q_chance q_rock q_people q_bad q_well q_ends q_runs q_way q_words q_told q_weight q_days q_depth q_bestDepth q_hopes q_planOf q_planDepth v_tapeSize v_thrown_j_458 v_salt v_dry v_rest v_fault v_faultPlace v_rocks v_villages v_day v_at v_allPipes v_end v_next v_kind v_which v_place (1 : Int32) (v_planMany_487 + (1 : Int32)) x5_j_458 x6_j_458 w_prior w_pipesIn w_pipe w_met w_chance w_rock w_people w_bad w_well w_way w_weight_j_458 w_days_j_458 w_depth_j_458 w_bestDepth_j_458 w_hopes_j_458 (upd w_planOf_487 (v_planMany_487).toNatClampNeg x12_k487_601) (upd w_planDepth_487 (v_planMany_487).toNatClampNeg (w_bestDepth_j_458 (x12_k487_601).toNatClampNeg)))) rfl dX7_plan_635 (fun H locs hP hD hS => ?_)
          refine lv_iload hx hb dX7_plan_638 (lv_at hl 2 rfl) ?_
          refine lv_iconst (v := (1 : Int32)) hx hb dX7_plan_640 (by decide) ?_
          refine lv_iload hx hb dX7_plan_641 (lv_at hl 3 rfl) ?_
          refine lv_iconst (v := (1 : Int32)) hx hb dX7_plan_643 (by decide) ?_
          refine lv_isub hx hb dX7_plan_644 ?_
          refine lv_ishl hx hb dX7_plan_645 ?_
          refine lv_iconst (v := (-1 : Int32)) hx hb dX7_plan_646 (by decide) ?_
          refine lv_ixor hx hb dX7_plan_647 ?_
          refine lv_iand hx hb dX7_plan_648 ?_
          refine lv_istore (lv' := [(10, .int (x10_487 &&& (((1 : Int32) <<< ((x12_k487_601 - (1 : Int32)) &&& 31)) ^^^ (-1 : Int32)))), (0, .ref q_this), (3, .long x3_j_458), (12, .int x12_k487_601)]) hx hb dX7_plan_649 hl (by decide) rfl (fun ls hl => ?_)
          refine lv_iload hx hb dX7_plan_651 (lv_at hl 3 rfl) ?_
          refine lv_istore (lv' := [(9, .int x12_k487_601), (10, .int (x10_487 &&& (((1 : Int32) <<< ((x12_k487_601 - (1 : Int32)) &&& 31)) ^^^ (-1 : Int32)))), (0, .ref q_this), (3, .long x3_j_458), (12, .int x12_k487_601)]) hx hb dX7_plan_653 hl (by decide) rfl (fun ls hl => ?_)
          refine lv_goto (tgt := 487) hx hb dX7_plan_655 (by decide) ?_
          exact ih_487 x12_k487_601 (x10_487 &&& (((1 : Int32) <<< ((x12_k487_601 - (1 : Int32)) &&& 31)) ^^^ (-1 : Int32))) (v_planMany_487 + (1 : Int32)) (upd w_planOf_487 (v_planMany_487).toNatClampNeg x12_k487_601) (upd w_planDepth_487 (v_planMany_487).toNatClampNeg (w_bestDepth_j_458 (x12_k487_601).toNatClampNeg)) H locs hP hD hS ls (lv_sub hl [2, 3, 0, 1] rfl) (hB1_487 _ hsh)
        have Jk487_519 : ∀ (s0_k487_519 : Int32) (H : Heap) (locs : List Loc), va_P D vwCl (wdX7_plan cI cJ cZ q_this q_tape q_prior q_pipesIn q_pipe q_met q_chance q_rock q_people q_bad q_well q_ends q_runs q_way q_words q_told q_weight q_days q_depth q_bestDepth q_hopes q_planOf q_planDepth v_tapeSize v_thrown_j_458 v_salt v_dry v_rest v_fault v_faultPlace v_rocks v_villages v_day v_at v_allPipes v_end v_next v_kind v_which v_place (1 : Int32) v_planMany_487 x5_j_458 x6_j_458 w_prior w_pipesIn w_pipe w_met w_chance w_rock w_people w_bad w_well w_way w_weight_j_458 w_days_j_458 w_depth_j_458 w_bestDepth_j_458 w_hopes_j_458 w_planOf_487 w_planDepth_487) H → va_D A (wdX7_plan cI cJ cZ q_this q_tape q_prior q_pipesIn q_pipe q_met q_chance q_rock q_people q_bad q_well q_ends q_runs q_way q_words q_told q_weight q_days q_depth q_bestDepth q_hopes q_planOf q_planDepth v_tapeSize v_thrown_j_458 v_salt v_dry v_rest v_fault v_faultPlace v_rocks v_villages v_day v_at v_allPipes v_end v_next v_kind v_which v_place (1 : Int32) v_planMany_487 x5_j_458 x6_j_458 w_prior w_pipesIn w_pipe w_met w_chance w_rock w_people w_bad w_well w_way w_weight_j_458 w_days_j_458 w_depth_j_458 w_bestDepth_j_458 w_hopes_j_458 w_planOf_487 w_planDepth_487) → va_S A s.heap H locs → ∀ ls : Array Slot, lv_has ls 18 [(0, .ref q_this), (3, .long x3_j_458), (9, .int x9_487), (10, .int x10_487)] → shX7_plan_k487_519 v_at w_way w_days_j_458 w_bestDepth_j_458 x9_487 x10_487 v_planMany_487 w_planOf_487 w_planDepth_487 s0_k487_519 = some b_487 → W p l e rmX7_plan s m args below meth c H locs 0 0 Q (F0 m 519 ls [.int s0_k487_519]) := by
          intro s0_k487_519 H locs hP hD hS ls hl hsh
          unfold shX7_plan_k487_519 at hsh
          refine lv_istore (lv' := [(11, .int s0_k487_519), (0, .ref q_this), (3, .long x3_j_458), (9, .int x9_487), (10, .int x10_487)]) hx hb dX7_plan_519 hl (by decide) rfl (fun ls hl => ?_)
          refine lv_iconst (v := (1 : Int32)) hx hb dX7_plan_521 (by decide) ?_
          refine lv_istore (lv' := [(12, .int (1 : Int32)), (11, .int s0_k487_519), (0, .ref q_this), (3, .long x3_j_458), (9, .int x9_487), (10, .int x10_487)]) hx hb dX7_plan_522 hl (by decide) rfl (fun ls hl => ?_)
          obtain ⟨r_524, hl_524, hk_524⟩ := bd hsh
          obtain ⟨n_524, hn_524⟩ := lp_iff.mp hl_524
          have L_524 : ∀ (n : Nat) (x12_524 : Int32) (H : Heap) (locs : List Loc), va_P D vwCl (wdX7_plan cI cJ cZ q_this q_tape q_prior q_pipesIn q_pipe q_met q_chance q_rock q_people q_bad q_well q_ends q_runs q_way q_words q_told q_weight q_days q_depth q_bestDepth q_hopes q_planOf q_planDepth v_tapeSize v_thrown_j_458 v_salt v_dry v_rest v_fault v_faultPlace v_rocks v_villages v_day v_at v_allPipes v_end v_next v_kind v_which v_place (1 : Int32) v_planMany_487 x5_j_458 x6_j_458 w_prior w_pipesIn w_pipe w_met w_chance w_rock w_people w_bad w_well w_way w_weight_j_458 w_days_j_458 w_depth_j_458 w_bestDepth_j_458 w_hopes_j_458 w_planOf_487 w_planDepth_487) H → va_D A (wdX7_plan cI cJ cZ q_this q_tape q_prior q_pipesIn q_pipe q_met q_chance q_rock q_people q_bad q_well q_ends q_runs q_way q_words q_told q_weight q_days q_depth q_bestDepth q_hopes q_planOf q_planDepth v_tapeSize v_thrown_j_458 v_salt v_dry v_rest v_fault v_faultPlace v_rocks v_villages v_day v_at v_allPipes v_end v_next v_kind v_which v_place (1 : Int32) v_planMany_487 x5_j_458 x6_j_458 w_prior w_pipesIn w_pipe w_met w_chance w_rock w_people w_bad w_well w_way w_weight_j_458 w_days_j_458 w_depth_j_458 w_bestDepth_j_458 w_hopes_j_458 w_planOf_487 w_planDepth_487) → va_S A s.heap H locs → ∀ ls : Array Slot, lv_has ls 18 [(0, .ref q_this), (3, .long x3_j_458), (9, .int x9_487), (10, .int x10_487), (11, .int s0_k487_519), (12, .int x12_524)] → it (fun s : Int32 => shX7_plan_L524 v_at w_way w_days_j_458 x9_487 x10_487 s0_k487_519 s) n x12_524 = some r_524 → W p l e rmX7_plan s m args below meth c H locs 0 0 Q (F0 m 524 ls []) := by
            intro n
            induction n with
            | zero => exact fun _ _ _ _ _ _ _ _ hi => it_0 hi
            | succ n ih_524 =>
              intro x12_524 H locs hP hD hS ls hl hi
              obtain ⟨b_524, hsh, hB1_524, hB2_524⟩ := it_b hi
              replace hsh : shX7_plan_L524 v_at w_way w_days_j_458 x9_487 x10_487 s0_k487_519 x12_524 = some b_524 := hsh
              unfold shX7_plan_L524 at hsh
              have Jk524_595 : ∀ (H : Heap) (locs : List Loc), va_P D vwCl (wdX7_plan cI cJ cZ q_this q_tape q_prior q_pipesIn q_pipe q_met q_chance q_rock q_people q_bad q_well q_ends q_runs q_way q_words q_told q_weight q_days q_depth q_bestDepth q_hopes q_planOf q_planDepth v_tapeSize v_thrown_j_458 v_salt v_dry v_rest v_fault v_faultPlace v_rocks v_villages v_day v_at v_allPipes v_end v_next v_kind v_which v_place (1 : Int32) v_planMany_487 x5_j_458 x6_j_458 w_prior w_pipesIn w_pipe w_met w_chance w_rock w_people w_bad w_well w_way w_weight_j_458 w_days_j_458 w_depth_j_458 w_bestDepth_j_458 w_hopes_j_458 w_planOf_487 w_planDepth_487) H → va_D A (wdX7_plan cI cJ cZ q_this q_tape q_prior q_pipesIn q_pipe q_met q_chance q_rock q_people q_bad q_well q_ends q_runs q_way q_words q_told q_weight q_days q_depth q_bestDepth q_hopes q_planOf q_planDepth v_tapeSize v_thrown_j_458 v_salt v_dry v_rest v_fault v_faultPlace v_rocks v_villages v_day v_at v_allPipes v_end v_next v_kind v_which v_place (1 : Int32) v_planMany_487 x5_j_458 x6_j_458 w_prior w_pipesIn w_pipe w_met w_chance w_rock w_people w_bad w_well w_way w_weight_j_458 w_days_j_458 w_depth_j_458 w_bestDepth_j_458 w_hopes_j_458 w_planOf_487 w_planDepth_487) → va_S A s.heap H locs → ∀ ls : Array Slot, lv_has ls 18 [(0, .ref q_this), (3, .long x3_j_458), (9, .int x9_487), (10, .int x10_487), (11, .int s0_k487_519), (12, .int x12_524)] → shX7_plan_k524_595 x12_524 = some b_524 → W p l e rmX7_plan s m args below meth c H locs 0 0 Q (F0 m 595 ls []) := by
                intro  H locs hP hD hS ls hl hsh
                unfold shX7_plan_k524_595 at hsh
                refine lv_iinc (v := (x12_524 + (1 : Int32))) (lv' := [(12, .int (x12_524 + (1 : Int32))), (0, .ref q_this), (3, .long x3_j_458), (9, .int x9_487), (10, .int x10_487), (11, .int s0_k487_519)]) hx hb dX7_plan_595 hl (k := 5) rfl (congrArg (fun z : Int32 => x12_524 + z) (by decide)) (by decide) rfl (fun ls hl => ?_)
                refine lv_goto (tgt := 524) hx hb dX7_plan_598 (by decide) ?_
                exact ih_524 (x12_524 + (1 : Int32)) H locs hP hD hS ls (lv_sub hl [1, 2, 3, 4, 5, 0] rfl) (hB1_524 _ hsh)
              have Jk524_590 : ∀ (s0_k524_590 : Int32) (H : Heap) (locs : List Loc), va_P D vwCl (wdX7_plan cI cJ cZ q_this q_tape q_prior q_pipesIn q_pipe q_met q_chance q_rock q_people q_bad q_well q_ends q_runs q_way q_words q_told q_weight q_days q_depth q_bestDepth q_hopes q_planOf q_planDepth v_tapeSize v_thrown_j_458 v_salt v_dry v_rest v_fault v_faultPlace v_rocks v_villages v_day v_at v_allPipes v_end v_next v_kind v_which v_place (1 : Int32) v_planMany_487 x5_j_458 x6_j_458 w_prior w_pipesIn w_pipe w_met w_chance w_rock w_people w_bad w_well w_way w_weight_j_458 w_days_j_458 w_depth_j_458 w_bestDepth_j_458 w_hopes_j_458 w_planOf_487 w_planDepth_487) H → va_D A (wdX7_plan cI cJ cZ q_this q_tape q_prior q_pipesIn q_pipe q_met q_chance q_rock q_people q_bad q_well q_ends q_runs q_way q_words q_told q_weight q_days q_depth q_bestDepth q_hopes q_planOf q_planDepth v_tapeSize v_thrown_j_458 v_salt v_dry v_rest v_fault v_faultPlace v_rocks v_villages v_day v_at v_allPipes v_end v_next v_kind v_which v_place (1 : Int32) v_planMany_487 x5_j_458 x6_j_458 w_prior w_pipesIn w_pipe w_met w_chance w_rock w_people w_bad w_well w_way w_weight_j_458 w_days_j_458 w_depth_j_458 w_bestDepth_j_458 w_hopes_j_458 w_planOf_487 w_planDepth_487) → va_S A s.heap H locs → ∀ ls : Array Slot, lv_has ls 18 [(0, .ref q_this), (3, .long x3_j_458), (9, .int x9_487), (10, .int x10_487), (11, .int s0_k487_519), (12, .int x12_524)] → shX7_plan_k524_590 s0_k487_519 x12_524 s0_k524_590 = some b_524 → W p l e rmX7_plan s m args below meth c H locs 0 0 Q (F0 m 590 ls [.int s0_k524_590]) := by
                intro s0_k524_590 H locs hP hD hS ls hl hsh
                unfold shX7_plan_k524_590 at hsh
                refine lv_iload hx hb dX7_plan_590 (lv_at hl 4 rfl) ?_
                refine lv_icmp_eq (tgt := 601) hx hb dX7_plan_592 (by decide) (fun c1 => ?_) (fun c1 => ?_)
                · skip
                  have hsh := ite_t hsh c1
                  have he := hB2_524 _ hsh
                  rw [← he] at hk_524
                  exact Jk487_601 x12_524 H locs hP hD hS ls (lv_sub hl [0, 1, 3, 5] rfl) hk_524
                · skip
                  have hsh := ite_f hsh c1
                  exact Jk524_595  H locs hP hD hS ls (lv_sub hl [0, 1, 2, 3, 4, 5] rfl) hsh
              refine lv_iload hx hb dX7_plan_524 (lv_at hl 3 rfl) ?_
              refine lv_iload hx hb dX7_plan_526 (lv_at hl 5 rfl) ?_
              refine lv_iconst (v := (1 : Int32)) hx hb dX7_plan_528 (by decide) ?_
              refine lv_isub hx hb dX7_plan_529 ?_
              refine lv_ishr hx hb dX7_plan_530 ?_
              refine lv_iconst (v := (1 : Int32)) hx hb dX7_plan_531 (by decide) ?_
              refine lv_iand hx hb dX7_plan_532 ?_
              refine lv_if_eq (tgt := 595) hx hb dX7_plan_533 (by decide) (fun c1 => ?_) (fun c1 => ?_)
              · skip
                have hsh := ite_t hsh c1
                exact Jk524_595  H locs hP hD hS ls (lv_sub hl [0, 1, 2, 3, 4, 5] rfl) hsh
              · skip
                have hsh := ite_f hsh c1
                refine lv_iload hx hb dX7_plan_536 (lv_at hl 2 rfl) ?_
                refine lv_if_ge (tgt := 552) hx hb dX7_plan_538 (by decide) (fun c1 => ?_) (fun c1 => ?_)
                · skip
                  have hsh := ite_t hsh c1
                  refine lv_aload_n hx hb dX7_plan_552 rfl (lv_at hl 0 rfl) ?_
                  refine kget (ci := 7) S hK hP rfl inX7_plan_X7 0 rfl 21 (by decide) lkX7_plan_57 rfl dX7_plan_553 ?_
                  refine lv_bipush (v := (8 : Int32)) hx hb dX7_plan_556 (by decide) ?_
                  refine lv_iload hx hb dX7_plan_558 (lv_at hl 2 rfl) ?_
                  refine lv_imul hx hb dX7_plan_560 ?_
                  refine lv_iload hx hb dX7_plan_561 (lv_at hl 5 rfl) ?_
                  refine lv_iadd hx hb dX7_plan_563 ?_
                  obtain ⟨_, hg, hsh⟩ := bd hsh
                  refine kial S hK hP 10 0 rfl rfl (gd_in hg) dX7_plan_564 ?_
                  refine lv_aload_n hx hb dX7_plan_565 rfl (lv_at hl 0 rfl) ?_
                  refine kget (ci := 7) S hK hP rfl inX7_plan_X7 0 rfl 33 (by decide) lkX7_plan_70 rfl dX7_plan_566 ?_
                  refine lv_bipush (v := (8 : Int32)) hx hb dX7_plan_569 (by decide) ?_
                  refine lv_iload hx hb dX7_plan_571 (lv_at hl 3 rfl) ?_
                  refine lv_iconst (v := (1 : Int32)) hx hb dX7_plan_573 (by decide) ?_
                  refine lv_iload hx hb dX7_plan_574 (lv_at hl 5 rfl) ?_
                  refine lv_iconst (v := (1 : Int32)) hx hb dX7_plan_576 (by decide) ?_
                  refine lv_isub hx hb dX7_plan_577 ?_
                  refine lv_ishl hx hb dX7_plan_578 ?_
                  refine lv_iconst (v := (-1 : Int32)) hx hb dX7_plan_579 (by decide) ?_
                  refine lv_ixor hx hb dX7_plan_580 ?_
                  refine lv_iand hx hb dX7_plan_581 ?_
                  refine lv_imul hx hb dX7_plan_582 ?_
                  refine lv_iload hx hb dX7_plan_583 (lv_at hl 5 rfl) ?_
                  refine lv_iadd hx hb dX7_plan_585 ?_
                  obtain ⟨_, hg, hsh⟩ := bd hsh
                  refine kial S hK hP 12 0 rfl rfl (gd_in hg) dX7_plan_586 ?_
                  obtain ⟨o_587, he, hsh⟩ := bd hsh
                  refine kSi S hK hA (ctX7_far l D cI cJ cZ (w_way ((((8 : Int32) * x9_487) + x12_524)).toNatClampNeg) (w_days_j_458 ((((8 : Int32) * (x10_487 &&& (((1 : Int32) <<< ((x12_524 - (1 : Int32)) &&& 31)) ^^^ (-1 : Int32)))) + x12_524)).toNatClampNeg) o_587 he) noE_cl (va_cwS 2 hts gX7_plan_X7_far rfl rfl rfl hdX7_far ⟨Nat.le_of_ble_eq_true rfl, Nat.le_of_ble_eq_true rfl⟩) [] [0, 1, 2, 3, 4, 5, 6, 7, 8, 9, 10, 11, 12, 13, 14, 15, 16, 17] [0, 1, 2, 3, 4, 5, 6, 7, 8, 9, 10, 11, 12, 13, 14, 15, 16, 17] (ws' := (wdX7_plan cI cJ cZ q_this q_tape q_prior q_pipesIn q_pipe q_met q_chance q_rock q_people q_bad q_well q_ends q_runs q_way q_words q_told q_weight q_days q_depth q_bestDepth q_hopes q_planOf q_planDepth v_tapeSize v_thrown_j_458 v_salt v_dry v_rest v_fault v_faultPlace v_rocks v_villages v_day v_at v_allPipes v_end v_next v_kind v_which v_place (1 : Int32) v_planMany_487 x5_j_458 x6_j_458 w_prior w_pipesIn w_pipe w_met w_chance w_rock w_people w_bad w_well w_way w_weight_j_458 w_days_j_458 w_depth_j_458 w_bestDepth_j_458 w_hopes_j_458 w_planOf_487 w_planDepth_487)) ⟨rfl, rfl, rfl, rfl, rfl, rfl, rfl⟩ trivial rfl hl.1 rfl (Nat.le_of_ble_eq_true rfl) dX7_plan_587 hP hD hS (fun H locs hP hD hS => ?_)
                  exact Jk524_590 o_587 H locs hP hD hS ls (lv_sub hl [0, 1, 2, 3, 4, 5] rfl) hsh
                · skip
                  have hsh := ite_f hsh c1
                  refine lv_aload_n hx hb dX7_plan_541 rfl (lv_at hl 0 rfl) ?_
                  refine lv_iload hx hb dX7_plan_542 (lv_at hl 5 rfl) ?_
                  refine lv_iload hx hb dX7_plan_544 (lv_at hl 3 rfl) ?_
                  obtain ⟨o_546, he, hsh⟩ := bd hsh
                  refine kVi (ci := 7) S hK hA (ctX7_from l D cI cJ cZ q_this q_tape q_prior q_pipesIn q_pipe q_met q_chance q_rock q_people q_bad q_well q_ends q_runs q_way q_words q_told q_weight q_days q_depth q_bestDepth q_hopes q_planOf q_planDepth v_tapeSize v_thrown_j_458 v_salt v_dry v_rest v_fault v_faultPlace v_rocks v_villages v_day v_at v_allPipes v_end v_next v_kind v_which v_place (1 : Int32) v_planMany_487 x5_j_458 x6_j_458 w_way w_days_j_458 x12_524 x10_487 o_546 he) noE_cl (cwV 2 hts gX7_plan_X7_from rfl rfl rfl hdX7_from ⟨Nat.le_of_ble_eq_true rfl, Nat.le_of_ble_eq_true rfl⟩) rfl 0 rfl [0, 10, 12] [1, 2, 3, 4, 5, 6, 7, 8, 9, 11, 13, 14, 15, 16, 17] [15, 0, 1, 2, 3, 4, 5, 6, 7, 8, 16, 9, 17, 10, 11, 12, 13, 14] (ws' := (wdX7_plan cI cJ cZ q_this q_tape q_prior q_pipesIn q_pipe q_met q_chance q_rock q_people q_bad q_well q_ends q_runs q_way q_words q_told q_weight q_days q_depth q_bestDepth q_hopes q_planOf q_planDepth v_tapeSize v_thrown_j_458 v_salt v_dry v_rest v_fault v_faultPlace v_rocks v_villages v_day v_at v_allPipes v_end v_next v_kind v_which v_place (1 : Int32) v_planMany_487 x5_j_458 x6_j_458 w_prior w_pipesIn w_pipe w_met w_chance w_rock w_people w_bad w_well w_way w_weight_j_458 w_days_j_458 w_depth_j_458 w_bestDepth_j_458 w_hopes_j_458 w_planOf_487 w_planDepth_487)) ⟨rfl, rfl, rfl, rfl, rfl, rfl, rfl⟩ trivial rfl hl.1 rfl (Nat.le_of_ble_eq_true rfl) dX7_plan_546 hP hD hS (fun H locs hP hD hS => ?_)
                  refine lv_goto (tgt := 590) hx hb dX7_plan_549 (by decide) ?_
                  exact Jk524_590 o_546 H locs hP hD hS ls (lv_sub hl [0, 1, 2, 3, 4, 5] rfl) hsh
          exact L_524 n_524 (1 : Int32) H locs hP hD hS ls (lv_sub hl [2, 3, 4, 5, 1, 0] rfl) hn_524
        refine lv_iload hx hb dX7_plan_487 (lv_at hl 3 rfl) ?_
        refine lv_if_eq (tgt := 658) hx hb dX7_plan_489 (by decide) (fun c1 => ?_) (fun c1 => ?_)
        · skip
          have hsh := ite_t hsh c1
          have he := hB2_487 _ hsh
          rw [← he] at hk_487
          exact Jj_658 x3_j_458 v_thrown_j_458 (1 : Int32) v_planMany_487 x5_j_458 x6_j_458 w_weight_j_458 w_days_j_458 w_depth_j_458 w_bestDepth_j_458 w_hopes_j_458 w_planOf_487 w_planDepth_487 H locs hP hD hS ls (lv_sub hl [1] rfl) hk_487
        · skip
          have hsh := ite_f hsh c1
          refine lv_iload hx hb dX7_plan_492 (lv_at hl 2 rfl) ?_
          refine lv_if_ge (tgt := 506) hx hb dX7_plan_494 (by decide) (fun c1 => ?_) (fun c1 => ?_)
          · skip
            have hsh := ite_t hsh c1
            refine lv_aload_n hx hb dX7_plan_506 rfl (lv_at hl 0 rfl) ?_
            refine kget (ci := 7) S hK hP rfl inX7_plan_X7 0 rfl 33 (by decide) lkX7_plan_70 rfl dX7_plan_507 ?_
            refine lv_bipush (v := (8 : Int32)) hx hb dX7_plan_510 (by decide) ?_
            refine lv_iload hx hb dX7_plan_512 (lv_at hl 3 rfl) ?_
            refine lv_imul hx hb dX7_plan_514 ?_
            refine lv_iload hx hb dX7_plan_515 (lv_at hl 2 rfl) ?_
            refine lv_iadd hx hb dX7_plan_517 ?_
            obtain ⟨_, hg, hsh⟩ := bd hsh
            refine kial S hK hP 12 0 rfl rfl (gd_in hg) dX7_plan_518 ?_
            exact Jk487_519 (w_days_j_458 ((((8 : Int32) * x10_487) + x9_487)).toNatClampNeg) H locs hP hD hS ls (lv_sub hl [0, 1, 2, 3] rfl) hsh
          · skip
            have hsh := ite_f hsh c1
            refine lv_aload_n hx hb dX7_plan_497 rfl (lv_at hl 0 rfl) ?_
            refine lv_iload hx hb dX7_plan_498 (lv_at hl 3 rfl) ?_
            obtain ⟨o_500, he, hsh⟩ := bd hsh
            refine kVi (ci := 7) S hK hA (ctX7_through l D cI cJ cZ q_this q_tape q_prior q_pipesIn q_pipe q_met q_chance q_rock q_people q_bad q_well q_ends q_runs q_way q_words q_told q_weight q_days q_depth q_bestDepth q_hopes q_planOf q_planDepth v_tapeSize v_thrown_j_458 v_salt v_dry v_rest v_fault v_faultPlace v_rocks v_villages v_day v_at v_allPipes v_end v_next v_kind v_which v_place (1 : Int32) v_planMany_487 x5_j_458 x6_j_458 w_way w_days_j_458 x10_487 o_500 he) noE_cl (cwV 1 hts gX7_plan_X7_through rfl rfl rfl hdX7_through ⟨Nat.le_of_ble_eq_true rfl, Nat.le_of_ble_eq_true rfl⟩) rfl 0 rfl [0, 10, 12] [1, 2, 3, 4, 5, 6, 7, 8, 9, 11, 13, 14, 15, 16, 17] [15, 0, 1, 2, 3, 4, 5, 6, 7, 8, 16, 9, 17, 10, 11, 12, 13, 14] (ws' := (wdX7_plan cI cJ cZ q_this q_tape q_prior q_pipesIn q_pipe q_met q_chance q_rock q_people q_bad q_well q_ends q_runs q_way q_words q_told q_weight q_days q_depth q_bestDepth q_hopes q_planOf q_planDepth v_tapeSize v_thrown_j_458 v_salt v_dry v_rest v_fault v_faultPlace v_rocks v_villages v_day v_at v_allPipes v_end v_next v_kind v_which v_place (1 : Int32) v_planMany_487 x5_j_458 x6_j_458 w_prior w_pipesIn w_pipe w_met w_chance w_rock w_people w_bad w_well w_way w_weight_j_458 w_days_j_458 w_depth_j_458 w_bestDepth_j_458 w_hopes_j_458 w_planOf_487 w_planDepth_487)) ⟨rfl, rfl, rfl, rfl, rfl, rfl, rfl⟩ trivial rfl hl.1 rfl (Nat.le_of_ble_eq_true rfl) dX7_plan_500 hP hD hS (fun H locs hP hD hS => ?_)
            refine lv_goto (tgt := 519) hx hb dX7_plan_503 (by decide) ?_
            exact Jk487_519 o_500 H locs hP hD hS ls (lv_sub hl [0, 1, 2, 3] rfl) hsh
    exact L_487 n_487 (-1 : Int32) x7_j_458 (0 : Int32) w_planOf w_planDepth H locs hP hD hS ls (lv_sub hl [2, 3, 1, 0] rfl) hn_487
  have Jj_110 : ∀ (v_thrown_j_110 : Int32) (w_weight_j_110 : Nat → Int64) (w_days_j_110 : Nat → Int32) (w_depth_j_110 : Nat → Int32) (w_bestDepth_j_110 : Nat → Int32) (w_hopes_j_110 : Nat → Int32) (H : Heap) (locs : List Loc), va_P D vwCl (wdX7_plan cI cJ cZ q_this q_tape q_prior q_pipesIn q_pipe q_met q_chance q_rock q_people q_bad q_well q_ends q_runs q_way q_words q_told q_weight q_days q_depth q_bestDepth q_hopes q_planOf q_planDepth v_tapeSize v_thrown_j_110 v_salt v_dry v_rest v_fault v_faultPlace v_rocks v_villages v_day v_at v_allPipes v_end v_next v_kind v_which v_place v_isPlan v_planMany v_planPipes v_planDays w_prior w_pipesIn w_pipe w_met w_chance w_rock w_people w_bad w_well w_way w_weight_j_110 w_days_j_110 w_depth_j_110 w_bestDepth_j_110 w_hopes_j_110 w_planOf w_planDepth) H → va_D A (wdX7_plan cI cJ cZ q_this q_tape q_prior q_pipesIn q_pipe q_met q_chance q_rock q_people q_bad q_well q_ends q_runs q_way q_words q_told q_weight q_days q_depth q_bestDepth q_hopes q_planOf q_planDepth v_tapeSize v_thrown_j_110 v_salt v_dry v_rest v_fault v_faultPlace v_rocks v_villages v_day v_at v_allPipes v_end v_next v_kind v_which v_place v_isPlan v_planMany v_planPipes v_planDays w_prior w_pipesIn w_pipe w_met w_chance w_rock w_people w_bad w_well w_way w_weight_j_110 w_days_j_110 w_depth_j_110 w_bestDepth_j_110 w_hopes_j_110 w_planOf w_planDepth) → va_S A s.heap H locs → ∀ ls : Array Slot, lv_has ls 18 [(0, .ref q_this), (1, .int a1), (2, .int a2)] → shX7_plan_j_110 a1 a2 v_dry v_rest v_villages v_at w_people w_bad w_well w_way w_planOf w_planDepth v_thrown_j_110 w_weight_j_110 w_days_j_110 w_depth_j_110 w_bestDepth_j_110 w_hopes_j_110 = some o → W p l e rmX7_plan s m args below meth c H locs 0 0 Q (F0 m 110 ls []) := by
    intro v_thrown_j_110 w_weight_j_110 w_days_j_110 w_depth_j_110 w_bestDepth_j_110 w_hopes_j_110 H locs hP hD hS ls hl hsh
    unfold shX7_plan_j_110 at hsh
    refine lv_lconst (v := (0 : Int64)) hx hb dX7_plan_110 (by decide) ?_
    refine lv_lstore_n (lv' := [(3, .long (0 : Int64)), (0, .ref q_this), (1, .int a1), (2, .int a2)]) hx hb dX7_plan_111 rfl hl (by decide) rfl (fun ls hl => ?_)
    refine lv_iconst (v := (0 : Int32)) hx hb dX7_plan_112 (by decide) ?_
    refine lv_istore (lv' := [(5, .int (0 : Int32)), (3, .long (0 : Int64)), (0, .ref q_this), (1, .int a1), (2, .int a2)]) hx hb dX7_plan_113 hl (by decide) rfl (fun ls hl => ?_)
    refine lv_iconst (v := (0 : Int32)) hx hb dX7_plan_115 (by decide) ?_
    refine lv_istore (lv' := [(6, .int (0 : Int32)), (5, .int (0 : Int32)), (3, .long (0 : Int64)), (0, .ref q_this), (1, .int a1), (2, .int a2)]) hx hb dX7_plan_116 hl (by decide) rfl (fun ls hl => ?_)
    refine lv_iconst (v := (0 : Int32)) hx hb dX7_plan_118 (by decide) ?_
    refine lv_istore (lv' := [(7, .int (0 : Int32)), (6, .int (0 : Int32)), (5, .int (0 : Int32)), (3, .long (0 : Int64)), (0, .ref q_this), (1, .int a1), (2, .int a2)]) hx hb dX7_plan_119 hl (by decide) rfl (fun ls hl => ?_)
    refine lv_iconst (v := (1 : Int32)) hx hb dX7_plan_121 (by decide) ?_
    refine lv_istore (lv' := [(8, .int (1 : Int32)), (7, .int (0 : Int32)), (6, .int (0 : Int32)), (5, .int (0 : Int32)), (3, .long (0 : Int64)), (0, .ref q_this), (1, .int a1), (2, .int a2)]) hx hb dX7_plan_122 hl (by decide) rfl (fun ls hl => ?_)
    obtain ⟨r_124, hl_124, hk_124⟩ := bd hsh
    obtain ⟨n_124, hn_124⟩ := lp_iff.mp hl_124
    have L_124 : ∀ (n : Nat) (x3_124 : Int64) (x5_124 : Int32) (x6_124 : Int32) (x7_124 : Int32) (x8_124 : Int32) (w_depth_124 : Nat → Int32) (w_bestDepth_124 : Nat → Int32) (H : Heap) (locs : List Loc), va_P D vwCl (wdX7_plan cI cJ cZ q_this q_tape q_prior q_pipesIn q_pipe q_met q_chance q_rock q_people q_bad q_well q_ends q_runs q_way q_words q_told q_weight q_days q_depth q_bestDepth q_hopes q_planOf q_planDepth v_tapeSize v_thrown_j_110 v_salt v_dry v_rest v_fault v_faultPlace v_rocks v_villages v_day v_at v_allPipes v_end v_next v_kind v_which v_place v_isPlan v_planMany v_planPipes v_planDays w_prior w_pipesIn w_pipe w_met w_chance w_rock w_people w_bad w_well w_way w_weight_j_110 w_days_j_110 w_depth_124 w_bestDepth_124 w_hopes_j_110 w_planOf w_planDepth) H → va_D A (wdX7_plan cI cJ cZ q_this q_tape q_prior q_pipesIn q_pipe q_met q_chance q_rock q_people q_bad q_well q_ends q_runs q_way q_words q_told q_weight q_days q_depth q_bestDepth q_hopes q_planOf q_planDepth v_tapeSize v_thrown_j_110 v_salt v_dry v_rest v_fault v_faultPlace v_rocks v_villages v_day v_at v_allPipes v_end v_next v_kind v_which v_place v_isPlan v_planMany v_planPipes v_planDays w_prior w_pipesIn w_pipe w_met w_chance w_rock w_people w_bad w_well w_way w_weight_j_110 w_days_j_110 w_depth_124 w_bestDepth_124 w_hopes_j_110 w_planOf w_planDepth) → va_S A s.heap H locs → ∀ ls : Array Slot, lv_has ls 18 [(0, .ref q_this), (1, .int a1), (2, .int a2), (3, .long x3_124), (5, .int x5_124), (6, .int x6_124), (7, .int x7_124), (8, .int x8_124)] → it (fun s : Int64 × Int32 × Int32 × Int32 × Int32 × (Nat → Int32) × (Nat → Int32) => shX7_plan_L124 a1 a2 v_dry v_rest v_villages v_at w_people w_bad w_well w_way w_days_j_110 w_hopes_j_110 s.1 s.2.1 s.2.2.1 s.2.2.2.1 s.2.2.2.2.1 s.2.2.2.2.2.1 s.2.2.2.2.2.2) n (x3_124, x5_124, x6_124, x7_124, x8_124, w_depth_124, w_bestDepth_124) = some r_124 → W p l e rmX7_plan s m args below meth c H locs 0 0 Q (F0 m 124 ls []) := by
      intro n
      induction n with
      | zero => exact fun _ _ _ _ _ _ _ _ _ _ _ _ _ _ hi => it_0 hi
      | succ n ih_124 =>
        intro x3_124 x5_124 x6_124 x7_124 x8_124 w_depth_124 w_bestDepth_124 H locs hP hD hS ls hl hi
        obtain ⟨b_124, hsh, hB1_124, hB2_124⟩ := it_b hi
        replace hsh : shX7_plan_L124 a1 a2 v_dry v_rest v_villages v_at w_people w_bad w_well w_way w_days_j_110 w_hopes_j_110 x3_124 x5_124 x6_124 x7_124 x8_124 w_depth_124 w_bestDepth_124 = some b_124 := hsh
        unfold shX7_plan_L124 at hsh
        have Jk124_455 : ∀ (x3_k124_455 : Int64) (x5_k124_455 : Int32) (x6_k124_455 : Int32) (x7_k124_455 : Int32) (x8_k124_455 : Int32) (w_depth_k124_455 : Nat → Int32) (w_bestDepth_k124_455 : Nat → Int32) (H : Heap) (locs : List Loc), va_P D vwCl (wdX7_plan cI cJ cZ q_this q_tape q_prior q_pipesIn q_pipe q_met q_chance q_rock q_people q_bad q_well q_ends q_runs q_way q_words q_told q_weight q_days q_depth q_bestDepth q_hopes q_planOf q_planDepth v_tapeSize v_thrown_j_110 v_salt v_dry v_rest v_fault v_faultPlace v_rocks v_villages v_day v_at v_allPipes v_end v_next v_kind v_which v_place v_isPlan v_planMany v_planPipes v_planDays w_prior w_pipesIn w_pipe w_met w_chance w_rock w_people w_bad w_well w_way w_weight_j_110 w_days_j_110 w_depth_k124_455 w_bestDepth_k124_455 w_hopes_j_110 w_planOf w_planDepth) H → va_D A (wdX7_plan cI cJ cZ q_this q_tape q_prior q_pipesIn q_pipe q_met q_chance q_rock q_people q_bad q_well q_ends q_runs q_way q_words q_told q_weight q_days q_depth q_bestDepth q_hopes q_planOf q_planDepth v_tapeSize v_thrown_j_110 v_salt v_dry v_rest v_fault v_faultPlace v_rocks v_villages v_day v_at v_allPipes v_end v_next v_kind v_which v_place v_isPlan v_planMany v_planPipes v_planDays w_prior w_pipesIn w_pipe w_met w_chance w_rock w_people w_bad w_well w_way w_weight_j_110 w_days_j_110 w_depth_k124_455 w_bestDepth_k124_455 w_hopes_j_110 w_planOf w_planDepth) → va_S A s.heap H locs → ∀ ls : Array Slot, lv_has ls 18 [(0, .ref q_this), (1, .int a1), (2, .int a2), (3, .long x3_k124_455), (5, .int x5_k124_455), (6, .int x6_k124_455), (7, .int x7_k124_455), (8, .int x8_k124_455)] → shX7_plan_k124_455 x3_k124_455 x5_k124_455 x6_k124_455 x7_k124_455 x8_k124_455 w_depth_k124_455 w_bestDepth_k124_455 = some b_124 → W p l e rmX7_plan s m args below meth c H locs 0 0 Q (F0 m 455 ls []) := by
          intro x3_k124_455 x5_k124_455 x6_k124_455 x7_k124_455 x8_k124_455 w_depth_k124_455 w_bestDepth_k124_455 H locs hP hD hS ls hl hsh
          unfold shX7_plan_k124_455 at hsh
          refine lv_goto (tgt := 124) hx hb dX7_plan_455 (by decide) ?_
          exact ih_124 x3_k124_455 x5_k124_455 x6_k124_455 x7_k124_455 x8_k124_455 w_depth_k124_455 w_bestDepth_k124_455 H locs hP hD hS ls (lv_sub hl [0, 1, 2, 3, 4, 5, 6, 7] rfl) (hB1_124 _ hsh)
        have Jk124_398 : ∀ (s0_k124_398 : Int32) (x8_k124_398 : Int32) (x10_k124_398 : Int32) (x11_k124_398 : Int32) (x13_k124_398 : Int64) (x15_k124_398 : Int32) (w_depth_k124_398 : Nat → Int32) (H : Heap) (locs : List Loc), va_P D vwCl (wdX7_plan cI cJ cZ q_this q_tape q_prior q_pipesIn q_pipe q_met q_chance q_rock q_people q_bad q_well q_ends q_runs q_way q_words q_told q_weight q_days q_depth q_bestDepth q_hopes q_planOf q_planDepth v_tapeSize v_thrown_j_110 v_salt v_dry v_rest v_fault v_faultPlace v_rocks v_villages v_day v_at v_allPipes v_end v_next v_kind v_which v_place v_isPlan v_planMany v_planPipes v_planDays w_prior w_pipesIn w_pipe w_met w_chance w_rock w_people w_bad w_well w_way w_weight_j_110 w_days_j_110 w_depth_k124_398 w_bestDepth_124 w_hopes_j_110 w_planOf w_planDepth) H → va_D A (wdX7_plan cI cJ cZ q_this q_tape q_prior q_pipesIn q_pipe q_met q_chance q_rock q_people q_bad q_well q_ends q_runs q_way q_words q_told q_weight q_days q_depth q_bestDepth q_hopes q_planOf q_planDepth v_tapeSize v_thrown_j_110 v_salt v_dry v_rest v_fault v_faultPlace v_rocks v_villages v_day v_at v_allPipes v_end v_next v_kind v_which v_place v_isPlan v_planMany v_planPipes v_planDays w_prior w_pipesIn w_pipe w_met w_chance w_rock w_people w_bad w_well w_way w_weight_j_110 w_days_j_110 w_depth_k124_398 w_bestDepth_124 w_hopes_j_110 w_planOf w_planDepth) → va_S A s.heap H locs → ∀ ls : Array Slot, lv_has ls 18 [(0, .ref q_this), (1, .int a1), (2, .int a2), (3, .long x3_124), (5, .int x5_124), (6, .int x6_124), (7, .int x7_124), (8, .int x8_k124_398), (10, .int x10_k124_398), (11, .int x11_k124_398), (13, .long x13_k124_398), (15, .int x15_k124_398)] → shX7_plan_k124_398 v_villages x3_124 x5_124 x6_124 x7_124 w_bestDepth_124 s0_k124_398 x8_k124_398 x10_k124_398 x11_k124_398 x13_k124_398 x15_k124_398 w_depth_k124_398 = some b_124 → W p l e rmX7_plan s m args below meth c H locs 0 0 Q (F0 m 398 ls [.int s0_k124_398]) := by
          intro s0_k124_398 x8_k124_398 x10_k124_398 x11_k124_398 x13_k124_398 x15_k124_398 w_depth_k124_398 H locs hP hD hS ls hl hsh
          unfold shX7_plan_k124_398 at hsh
          refine lv_istore (lv' := [(16, .int s0_k124_398), (0, .ref q_this), (1, .int a1), (2, .int a2), (3, .long x3_124), (5, .int x5_124), (6, .int x6_124), (7, .int x7_124), (8, .int x8_k124_398), (10, .int x10_k124_398), (11, .int x11_k124_398), (13, .long x13_k124_398), (15, .int x15_k124_398)]) hx hb dX7_plan_398 hl (by decide) rfl (fun ls hl => ?_)
          refine lv_iload hx hb dX7_plan_400 (lv_at hl 0 rfl) ?_
          refine lv_if_ne (tgt := 408) hx hb dX7_plan_402 (by decide) (fun c1 => ?_) (fun c1 => ?_)
          · skip
            have hsh := ite_t hsh c1
            refine lv_lload hx hb dX7_plan_408 (lv_at hl 11 rfl) ?_
            refine lv_lstore_n (lv' := [(3, .long x13_k124_398), (16, .int s0_k124_398), (0, .ref q_this), (1, .int a1), (2, .int a2), (5, .int x5_124), (6, .int x6_124), (7, .int x7_124), (8, .int x8_k124_398), (10, .int x10_k124_398), (11, .int x11_k124_398), (13, .long x13_k124_398), (15, .int x15_k124_398)]) hx hb dX7_plan_410 rfl hl (by decide) rfl (fun ls hl => ?_)
            refine lv_iload hx hb dX7_plan_411 (lv_at hl 10 rfl) ?_
            refine lv_istore (lv' := [(5, .int x11_k124_398), (3, .long x13_k124_398), (16, .int s0_k124_398), (0, .ref q_this), (1, .int a1), (2, .int a2), (6, .int x6_124), (7, .int x7_124), (8, .int x8_k124_398), (10, .int x10_k124_398), (11, .int x11_k124_398), (13, .long x13_k124_398), (15, .int x15_k124_398)]) hx hb dX7_plan_413 hl (by decide) rfl (fun ls hl => ?_)
            refine lv_iload hx hb dX7_plan_415 (lv_at hl 12 rfl) ?_
            refine lv_istore (lv' := [(6, .int x15_k124_398), (5, .int x11_k124_398), (3, .long x13_k124_398), (16, .int s0_k124_398), (0, .ref q_this), (1, .int a1), (2, .int a2), (7, .int x7_124), (8, .int x8_k124_398), (10, .int x10_k124_398), (11, .int x11_k124_398), (13, .long x13_k124_398), (15, .int x15_k124_398)]) hx hb dX7_plan_417 hl (by decide) rfl (fun ls hl => ?_)
            refine lv_iload hx hb dX7_plan_419 (lv_at hl 9 rfl) ?_
            refine lv_istore (lv' := [(7, .int x10_k124_398), (6, .int x15_k124_398), (5, .int x11_k124_398), (3, .long x13_k124_398), (16, .int s0_k124_398), (0, .ref q_this), (1, .int a1), (2, .int a2), (8, .int x8_k124_398), (10, .int x10_k124_398), (11, .int x11_k124_398), (13, .long x13_k124_398), (15, .int x15_k124_398)]) hx hb dX7_plan_421 hl (by decide) rfl (fun ls hl => ?_)
            refine lv_iconst (v := (1 : Int32)) hx hb dX7_plan_423 (by decide) ?_
            refine lv_istore (lv' := [(17, .int (1 : Int32)), (7, .int x10_k124_398), (6, .int x15_k124_398), (5, .int x11_k124_398), (3, .long x13_k124_398), (16, .int s0_k124_398), (0, .ref q_this), (1, .int a1), (2, .int a2), (8, .int x8_k124_398), (10, .int x10_k124_398), (11, .int x11_k124_398), (13, .long x13_k124_398), (15, .int x15_k124_398)]) hx hb dX7_plan_424 hl (by decide) rfl (fun ls hl => ?_)
            obtain ⟨r_426, hl_426, hk_426⟩ := bd hsh
            obtain ⟨n_426, hn_426⟩ := lp_iff.mp hl_426
            have L_426 : ∀ (n : Nat) (x17_426 : Int32) (w_bestDepth_426 : Nat → Int32) (H : Heap) (locs : List Loc), va_P D vwCl (wdX7_plan cI cJ cZ q_this q_tape q_prior q_pipesIn q_pipe q_met q_chance q_rock q_people q_bad q_well q_ends q_runs q_way q_words q_told q_weight q_days q_depth q_bestDepth q_hopes q_planOf q_planDepth v_tapeSize v_thrown_j_110 v_salt v_dry v_rest v_fault v_faultPlace v_rocks v_villages v_day v_at v_allPipes v_end v_next v_kind v_which v_place v_isPlan v_planMany v_planPipes v_planDays w_prior w_pipesIn w_pipe w_met w_chance w_rock w_people w_bad w_well w_way w_weight_j_110 w_days_j_110 w_depth_k124_398 w_bestDepth_426 w_hopes_j_110 w_planOf w_planDepth) H → va_D A (wdX7_plan cI cJ cZ q_this q_tape q_prior q_pipesIn q_pipe q_met q_chance q_rock q_people q_bad q_well q_ends q_runs q_way q_words q_told q_weight q_days q_depth q_bestDepth q_hopes q_planOf q_planDepth v_tapeSize v_thrown_j_110 v_salt v_dry v_rest v_fault v_faultPlace v_rocks v_villages v_day v_at v_allPipes v_end v_next v_kind v_which v_place v_isPlan v_planMany v_planPipes v_planDays w_prior w_pipesIn w_pipe w_met w_chance w_rock w_people w_bad w_well w_way w_weight_j_110 w_days_j_110 w_depth_k124_398 w_bestDepth_426 w_hopes_j_110 w_planOf w_planDepth) → va_S A s.heap H locs → ∀ ls : Array Slot, lv_has ls 18 [(0, .ref q_this), (1, .int a1), (2, .int a2), (3, .long x13_k124_398), (5, .int x11_k124_398), (6, .int x15_k124_398), (7, .int x10_k124_398), (8, .int x8_k124_398), (17, .int x17_426)] → it (fun s : Int32 × (Nat → Int32) => shX7_plan_L426 v_villages w_depth_k124_398 s.1 s.2) n (x17_426, w_bestDepth_426) = some r_426 → W p l e rmX7_plan s m args below meth c H locs 0 0 Q (F0 m 426 ls []) := by
              intro n
              induction n with
              | zero => exact fun _ _ _ _ _ _ _ _ _ hi => it_0 hi
              | succ n ih_426 =>
                intro x17_426 w_bestDepth_426 H locs hP hD hS ls hl hi
                obtain ⟨b_426, hsh, hB1_426, hB2_426⟩ := it_b hi
                replace hsh : shX7_plan_L426 v_villages w_depth_k124_398 x17_426 w_bestDepth_426 = some b_426 := hsh
                unfold shX7_plan_L426 at hsh
                refine lv_iload hx hb dX7_plan_426 (lv_at hl 8 rfl) ?_
                refine lv_aload_n hx hb dX7_plan_428 rfl (lv_at hl 0 rfl) ?_
                refine kget (ci := 7) S hK hP rfl inX7_plan_X7 0 rfl 14 (by decide) lkX7_plan_143 rfl dX7_plan_429 ?_
                refine lv_icmp_gt (tgt := 455) hx hb dX7_plan_432 (by decide) (fun c1 => ?_) (fun c1 => ?_)
                · skip
                  have hsh := ite_t hsh c1
                  have he := hB2_426 _ hsh
                  rw [← he] at hk_426
                  exact Jk124_455 x13_k124_398 x11_k124_398 x15_k124_398 x10_k124_398 x8_k124_398 w_depth_k124_398 w_bestDepth_426 H locs hP hD hS ls (lv_sub hl [0, 1, 2, 3, 4, 5, 6, 7] rfl) hk_426
                · skip
                  have hsh := ite_f hsh c1
                  refine lv_aload_n hx hb dX7_plan_435 rfl (lv_at hl 0 rfl) ?_
                  refine kget (ci := 7) S hK hP rfl inX7_plan_X7 0 rfl 35 (by decide) lkX7_plan_76 rfl dX7_plan_436 ?_
                  refine lv_iload hx hb dX7_plan_439 (lv_at hl 8 rfl) ?_
                  refine lv_aload_n hx hb dX7_plan_441 rfl (lv_at hl 0 rfl) ?_
                  refine kget (ci := 7) S hK hP rfl inX7_plan_X7 0 rfl 34 (by decide) lkX7_plan_73 rfl dX7_plan_442 ?_
                  refine lv_iload hx hb dX7_plan_445 (lv_at hl 8 rfl) ?_
                  obtain ⟨_, hg, hsh⟩ := bd hsh
                  refine kial S hK hP 13 0 rfl rfl (gd_in hg) dX7_plan_447 ?_
                  obtain ⟨_, hg, hsh⟩ := bd hsh
                  refine kias S hK hP hD hS 14 0 rfl rfl (gd_in hg) (ws' := (wdX7_plan cI cJ cZ q_this q_tape q_prior q_pipesIn q_pipe q_met q_chance q_rock q_people q_bad q_well q_ends q_runs q_way q_words q_told q_weight q_days q_depth q_bestDepth q_hopes q_planOf q_planDepth v_tapeSize v_thrown_j_110 v_salt v_dry v_rest v_fault v_faultPlace v_rocks v_villages v_day v_at v_allPipes v_end v_next v_kind v_which v_place v_isPlan v_planMany v_planPipes v_planDays w_prior w_pipesIn w_pipe w_met w_chance w_rock w_people w_bad w_well w_way w_weight_j_110 w_days_j_110 w_depth_k124_398 (upd w_bestDepth_426 (x17_426).toNatClampNeg (w_depth_k124_398 (x17_426).toNatClampNeg)) w_hopes_j_110 w_planOf w_planDepth)) rfl dX7_plan_448 (fun H locs hP hD hS => ?_)
                  refine lv_iinc (v := (x17_426 + (1 : Int32))) (lv' := [(17, .int (x17_426 + (1 : Int32))), (0, .ref q_this), (1, .int a1), (2, .int a2), (3, .long x13_k124_398), (5, .int x11_k124_398), (6, .int x15_k124_398), (7, .int x10_k124_398), (8, .int x8_k124_398)]) hx hb dX7_plan_449 hl (k := 8) rfl (congrArg (fun z : Int32 => x17_426 + z) (by decide)) (by decide) rfl (fun ls hl => ?_)
                  refine lv_goto (tgt := 426) hx hb dX7_plan_452 (by decide) ?_
                  exact ih_426 (x17_426 + (1 : Int32)) (upd w_bestDepth_426 (x17_426).toNatClampNeg (w_depth_k124_398 (x17_426).toNatClampNeg)) H locs hP hD hS ls (lv_sub hl [1, 2, 3, 4, 5, 6, 7, 8, 0] rfl) (hB1_426 _ hsh)
            exact L_426 n_426 (1 : Int32) w_bestDepth_124 H locs hP hD hS ls (lv_sub hl [6, 7, 8, 4, 3, 2, 1, 9, 0] rfl) hn_426
          · skip
            have hsh := ite_f hsh (fun h => h c1)
            refine lv_goto (tgt := 124) hx hb dX7_plan_405 (by decide) ?_
            exact ih_124 x3_124 x5_124 x6_124 x7_124 x8_k124_398 w_depth_k124_398 w_bestDepth_124 H locs hP hD hS ls (lv_sub hl [1, 2, 3, 4, 5, 6, 7, 8] rfl) (hB1_124 _ hsh)
        have Jk124_393 : ∀ (x8_k124_393 : Int32) (x10_k124_393 : Int32) (x11_k124_393 : Int32) (x13_k124_393 : Int64) (x15_k124_393 : Int32) (w_depth_k124_393 : Nat → Int32) (H : Heap) (locs : List Loc), va_P D vwCl (wdX7_plan cI cJ cZ q_this q_tape q_prior q_pipesIn q_pipe q_met q_chance q_rock q_people q_bad q_well q_ends q_runs q_way q_words q_told q_weight q_days q_depth q_bestDepth q_hopes q_planOf q_planDepth v_tapeSize v_thrown_j_110 v_salt v_dry v_rest v_fault v_faultPlace v_rocks v_villages v_day v_at v_allPipes v_end v_next v_kind v_which v_place v_isPlan v_planMany v_planPipes v_planDays w_prior w_pipesIn w_pipe w_met w_chance w_rock w_people w_bad w_well w_way w_weight_j_110 w_days_j_110 w_depth_k124_393 w_bestDepth_124 w_hopes_j_110 w_planOf w_planDepth) H → va_D A (wdX7_plan cI cJ cZ q_this q_tape q_prior q_pipesIn q_pipe q_met q_chance q_rock q_people q_bad q_well q_ends q_runs q_way q_words q_told q_weight q_days q_depth q_bestDepth q_hopes q_planOf q_planDepth v_tapeSize v_thrown_j_110 v_salt v_dry v_rest v_fault v_faultPlace v_rocks v_villages v_day v_at v_allPipes v_end v_next v_kind v_which v_place v_isPlan v_planMany v_planPipes v_planDays w_prior w_pipesIn w_pipe w_met w_chance w_rock w_people w_bad w_well w_way w_weight_j_110 w_days_j_110 w_depth_k124_393 w_bestDepth_124 w_hopes_j_110 w_planOf w_planDepth) → va_S A s.heap H locs → ∀ ls : Array Slot, lv_has ls 18 [(0, .ref q_this), (1, .int a1), (2, .int a2), (3, .long x3_124), (5, .int x5_124), (6, .int x6_124), (7, .int x7_124), (8, .int x8_k124_393), (10, .int x10_k124_393), (11, .int x11_k124_393), (13, .long x13_k124_393), (15, .int x15_k124_393)] → shX7_plan_k124_393 v_villages x3_124 x5_124 x6_124 x7_124 w_bestDepth_124 x8_k124_393 x10_k124_393 x11_k124_393 x13_k124_393 x15_k124_393 w_depth_k124_393 = some b_124 → W p l e rmX7_plan s m args below meth c H locs 0 0 Q (F0 m 393 ls []) := by
          intro x8_k124_393 x10_k124_393 x11_k124_393 x13_k124_393 x15_k124_393 w_depth_k124_393 H locs hP hD hS ls hl hsh
          unfold shX7_plan_k124_393 at hsh
          refine lv_iconst (v := (1 : Int32)) hx hb dX7_plan_393 (by decide) ?_
          refine lv_goto (tgt := 398) hx hb dX7_plan_394 (by decide) ?_
          exact Jk124_398 (1 : Int32) x8_k124_393 x10_k124_393 x11_k124_393 x13_k124_393 x15_k124_393 w_depth_k124_393 H locs hP hD hS ls (lv_sub hl [0, 1, 2, 3, 4, 5, 6, 7, 8, 9, 10, 11] rfl) hsh
        have Jk124_397 : ∀ (x8_k124_397 : Int32) (x10_k124_397 : Int32) (x11_k124_397 : Int32) (x13_k124_397 : Int64) (x15_k124_397 : Int32) (w_depth_k124_397 : Nat → Int32) (H : Heap) (locs : List Loc), va_P D vwCl (wdX7_plan cI cJ cZ q_this q_tape q_prior q_pipesIn q_pipe q_met q_chance q_rock q_people q_bad q_well q_ends q_runs q_way q_words q_told q_weight q_days q_depth q_bestDepth q_hopes q_planOf q_planDepth v_tapeSize v_thrown_j_110 v_salt v_dry v_rest v_fault v_faultPlace v_rocks v_villages v_day v_at v_allPipes v_end v_next v_kind v_which v_place v_isPlan v_planMany v_planPipes v_planDays w_prior w_pipesIn w_pipe w_met w_chance w_rock w_people w_bad w_well w_way w_weight_j_110 w_days_j_110 w_depth_k124_397 w_bestDepth_124 w_hopes_j_110 w_planOf w_planDepth) H → va_D A (wdX7_plan cI cJ cZ q_this q_tape q_prior q_pipesIn q_pipe q_met q_chance q_rock q_people q_bad q_well q_ends q_runs q_way q_words q_told q_weight q_days q_depth q_bestDepth q_hopes q_planOf q_planDepth v_tapeSize v_thrown_j_110 v_salt v_dry v_rest v_fault v_faultPlace v_rocks v_villages v_day v_at v_allPipes v_end v_next v_kind v_which v_place v_isPlan v_planMany v_planPipes v_planDays w_prior w_pipesIn w_pipe w_met w_chance w_rock w_people w_bad w_well w_way w_weight_j_110 w_days_j_110 w_depth_k124_397 w_bestDepth_124 w_hopes_j_110 w_planOf w_planDepth) → va_S A s.heap H locs → ∀ ls : Array Slot, lv_has ls 18 [(0, .ref q_this), (1, .int a1), (2, .int a2), (3, .long x3_124), (5, .int x5_124), (6, .int x6_124), (7, .int x7_124), (8, .int x8_k124_397), (10, .int x10_k124_397), (11, .int x11_k124_397), (13, .long x13_k124_397), (15, .int x15_k124_397)] → shX7_plan_k124_397 v_villages x3_124 x5_124 x6_124 x7_124 w_bestDepth_124 x8_k124_397 x10_k124_397 x11_k124_397 x13_k124_397 x15_k124_397 w_depth_k124_397 = some b_124 → W p l e rmX7_plan s m args below meth c H locs 0 0 Q (F0 m 397 ls []) := by
          intro x8_k124_397 x10_k124_397 x11_k124_397 x13_k124_397 x15_k124_397 w_depth_k124_397 H locs hP hD hS ls hl hsh
          unfold shX7_plan_k124_397 at hsh
          refine lv_iconst (v := (0 : Int32)) hx hb dX7_plan_397 (by decide) ?_
          exact Jk124_398 (0 : Int32) x8_k124_397 x10_k124_397 x11_k124_397 x13_k124_397 x15_k124_397 w_depth_k124_397 H locs hP hD hS ls (lv_sub hl [0, 1, 2, 3, 4, 5, 6, 7, 8, 9, 10, 11] rfl) hsh
        have Jk124_306 : ∀ (x8_k124_306 : Int32) (x10_k124_306 : Int32) (x11_k124_306 : Int32) (x12_k124_306 : Int32) (x13_k124_306 : Int64) (w_depth_k124_306 : Nat → Int32) (H : Heap) (locs : List Loc), va_P D vwCl (wdX7_plan cI cJ cZ q_this q_tape q_prior q_pipesIn q_pipe q_met q_chance q_rock q_people q_bad q_well q_ends q_runs q_way q_words q_told q_weight q_days q_depth q_bestDepth q_hopes q_planOf q_planDepth v_tapeSize v_thrown_j_110 v_salt v_dry v_rest v_fault v_faultPlace v_rocks v_villages v_day v_at v_allPipes v_end v_next v_kind v_which v_place v_isPlan v_planMany v_planPipes v_planDays w_prior w_pipesIn w_pipe w_met w_chance w_rock w_people w_bad w_well w_way w_weight_j_110 w_days_j_110 w_depth_k124_306 w_bestDepth_124 w_hopes_j_110 w_planOf w_planDepth) H → va_D A (wdX7_plan cI cJ cZ q_this q_tape q_prior q_pipesIn q_pipe q_met q_chance q_rock q_people q_bad q_well q_ends q_runs q_way q_words q_told q_weight q_days q_depth q_bestDepth q_hopes q_planOf q_planDepth v_tapeSize v_thrown_j_110 v_salt v_dry v_rest v_fault v_faultPlace v_rocks v_villages v_day v_at v_allPipes v_end v_next v_kind v_which v_place v_isPlan v_planMany v_planPipes v_planDays w_prior w_pipesIn w_pipe w_met w_chance w_rock w_people w_bad w_well w_way w_weight_j_110 w_days_j_110 w_depth_k124_306 w_bestDepth_124 w_hopes_j_110 w_planOf w_planDepth) → va_S A s.heap H locs → ∀ ls : Array Slot, lv_has ls 18 [(0, .ref q_this), (1, .int a1), (2, .int a2), (3, .long x3_124), (5, .int x5_124), (6, .int x6_124), (7, .int x7_124), (8, .int x8_k124_306), (10, .int x10_k124_306), (11, .int x11_k124_306), (12, .int x12_k124_306), (13, .long x13_k124_306)] → shX7_plan_k124_306 a1 a2 v_rest v_villages v_at w_way w_days_j_110 x3_124 x5_124 x6_124 x7_124 w_bestDepth_124 x8_k124_306 x10_k124_306 x11_k124_306 x12_k124_306 x13_k124_306 w_depth_k124_306 = some b_124 → W p l e rmX7_plan s m args below meth c H locs 0 0 Q (F0 m 306 ls []) := by
          intro x8_k124_306 x10_k124_306 x11_k124_306 x12_k124_306 x13_k124_306 w_depth_k124_306 H locs hP hD hS ls hl hsh
          unfold shX7_plan_k124_306 at hsh
          refine lv_iload hx hb dX7_plan_306 (lv_at hl 9 rfl) ?_
          refine lv_iload_n hx hb dX7_plan_308 rfl (lv_at hl 1 rfl) ?_
          refine lv_icmp_gt (tgt := 124) hx hb dX7_plan_309 (by decide) (fun c1 => ?_) (fun c1 => ?_)
          · skip
            have hsh := ite_t hsh c1
            exact ih_124 x3_124 x5_124 x6_124 x7_124 x8_k124_306 w_depth_k124_306 w_bestDepth_124 H locs hP hD hS ls (lv_sub hl [0, 1, 2, 3, 4, 5, 6, 7] rfl) (hB1_124 _ hsh)
          · skip
            have hsh := ite_f hsh c1
            refine lv_lload hx hb dX7_plan_312 (lv_at hl 11 rfl) ?_
            refine lv_lload_n hx hb dX7_plan_314 rfl (lv_at hl 3 rfl) ?_
            refine W.lcmp hx hb dX7_plan_315 ?_
            refine lv_if_ge (tgt := 322) hx hb dX7_plan_316 (by decide) (fun c1 => ?_) (fun c1 => ?_)
            · have c1 := (lg_cmp_ge _ _).mp c1
              have hsh := ite_t hsh c1
              refine lv_aload_n hx hb dX7_plan_322 rfl (lv_at hl 0 rfl) ?_
              refine lv_iload hx hb dX7_plan_323 (lv_at hl 8 rfl) ?_
              obtain ⟨o_325, he, hsh⟩ := bd hsh
              refine kVi (ci := 7) S hK hA (ctX7_through l D cI cJ cZ q_this q_tape q_prior q_pipesIn q_pipe q_met q_chance q_rock q_people q_bad q_well q_ends q_runs q_way q_words q_told q_weight q_days q_depth q_bestDepth q_hopes q_planOf q_planDepth v_tapeSize v_thrown_j_110 v_salt v_dry v_rest v_fault v_faultPlace v_rocks v_villages v_day v_at v_allPipes v_end v_next v_kind v_which v_place v_isPlan v_planMany v_planPipes v_planDays w_way w_days_j_110 x10_k124_306 o_325 he) noE_cl (cwV 1 hts gX7_plan_X7_through rfl rfl rfl hdX7_through ⟨Nat.le_of_ble_eq_true rfl, Nat.le_of_ble_eq_true rfl⟩) rfl 0 rfl [0, 10, 12] [1, 2, 3, 4, 5, 6, 7, 8, 9, 11, 13, 14, 15, 16, 17] [15, 0, 1, 2, 3, 4, 5, 6, 7, 8, 16, 9, 17, 10, 11, 12, 13, 14] (ws' := (wdX7_plan cI cJ cZ q_this q_tape q_prior q_pipesIn q_pipe q_met q_chance q_rock q_people q_bad q_well q_ends q_runs q_way q_words q_told q_weight q_days q_depth q_bestDepth q_hopes q_planOf q_planDepth v_tapeSize v_thrown_j_110 v_salt v_dry v_rest v_fault v_faultPlace v_rocks v_villages v_day v_at v_allPipes v_end v_next v_kind v_which v_place v_isPlan v_planMany v_planPipes v_planDays w_prior w_pipesIn w_pipe w_met w_chance w_rock w_people w_bad w_well w_way w_weight_j_110 w_days_j_110 w_depth_k124_306 w_bestDepth_124 w_hopes_j_110 w_planOf w_planDepth)) ⟨rfl, rfl, rfl, rfl, rfl, rfl, rfl⟩ trivial rfl hl.1 rfl (Nat.le_of_ble_eq_true rfl) dX7_plan_325 hP hD hS (fun H locs hP hD hS => ?_)
              refine lv_istore (lv' := [(15, .int o_325), (0, .ref q_this), (1, .int a1), (2, .int a2), (3, .long x3_124), (5, .int x5_124), (6, .int x6_124), (7, .int x7_124), (8, .int x8_k124_306), (10, .int x10_k124_306), (11, .int x11_k124_306), (12, .int x12_k124_306), (13, .long x13_k124_306)]) hx hb dX7_plan_328 hl (by decide) rfl (fun ls hl => ?_)
              refine lv_iload hx hb dX7_plan_330 (lv_at hl 0 rfl) ?_
              refine lv_sipush (v := (9999 : Int32)) hx hb dX7_plan_332 (by decide) ?_
              refine lv_icmp_lt (tgt := 341) hx hb dX7_plan_335 (by decide) (fun c1 => ?_) (fun c1 => ?_)
              · skip
                have hsh := ite_t hsh c1
                refine lv_iload hx hb dX7_plan_341 (lv_at hl 0 rfl) ?_
                refine lv_iload hx hb dX7_plan_343 (lv_at hl 10 rfl) ?_
                refine lv_aload_n hx hb dX7_plan_345 rfl (lv_at hl 1 rfl) ?_
                refine kget (ci := 7) S hK hP rfl inX7_plan_X7 0 rfl 5 (by decide) lkX7_plan_134 rfl dX7_plan_346 ?_
                refine lv_iload hx hb dX7_plan_349 (lv_at hl 11 rfl) ?_
                refine lv_imul hx hb dX7_plan_351 ?_
                refine lv_iadd hx hb dX7_plan_352 ?_
                refine lv_iadd hx hb dX7_plan_353 ?_
                refine lv_istore (lv' := [(15, .int (o_325 + (x11_k124_306 + (v_rest * x12_k124_306)))), (0, .ref q_this), (1, .int a1), (2, .int a2), (3, .long x3_124), (5, .int x5_124), (6, .int x6_124), (7, .int x7_124), (8, .int x8_k124_306), (10, .int x10_k124_306), (11, .int x11_k124_306), (12, .int x12_k124_306), (13, .long x13_k124_306)]) hx hb dX7_plan_354 hl (by decide) rfl (fun ls hl => ?_)
                refine lv_iload hx hb dX7_plan_356 (lv_at hl 0 rfl) ?_
                refine lv_iload_n hx hb dX7_plan_358 rfl (lv_at hl 3 rfl) ?_
                refine lv_icmp_le (tgt := 365) hx hb dX7_plan_359 (by decide) (fun c1 => ?_) (fun c1 => ?_)
                · skip
                  have hsh := ite_t hsh c1
                  refine lv_lload hx hb dX7_plan_365 (lv_at hl 12 rfl) ?_
                  refine lv_lload_n hx hb dX7_plan_367 rfl (lv_at hl 4 rfl) ?_
                  refine W.lcmp hx hb dX7_plan_368 ?_
                  refine lv_if_gt (tgt := 393) hx hb dX7_plan_369 (by decide) (fun c1 => ?_) (fun c1 => ?_)
                  · have c1 := (lg_cmp_gt _ _).mp c1
                    have hsh := ite_t hsh c1
                    exact Jk124_393 x8_k124_306 x10_k124_306 x11_k124_306 x13_k124_306 (o_325 + (x11_k124_306 + (v_rest * x12_k124_306))) w_depth_k124_306 H locs hP hD hS ls (lv_sub hl [1, 2, 3, 4, 5, 6, 7, 8, 9, 10, 12, 0] rfl) hsh
                  · have c1 := fun h => c1 ((lg_cmp_gt _ _).mpr h)
                    have hsh := ite_f hsh c1
                    refine lv_iload hx hb dX7_plan_372 (lv_at hl 10 rfl) ?_
                    refine lv_iload hx hb dX7_plan_374 (lv_at hl 5 rfl) ?_
                    refine lv_icmp_lt (tgt := 393) hx hb dX7_plan_376 (by decide) (fun c1 => ?_) (fun c1 => ?_)
                    · skip
                      have hsh := ite_t hsh c1
                      exact Jk124_393 x8_k124_306 x10_k124_306 x11_k124_306 x13_k124_306 (o_325 + (x11_k124_306 + (v_rest * x12_k124_306))) w_depth_k124_306 H locs hP hD hS ls (lv_sub hl [1, 2, 3, 4, 5, 6, 7, 8, 9, 10, 12, 0] rfl) hsh
                    · skip
                      have hsh := ite_f hsh c1
                      refine lv_iload hx hb dX7_plan_379 (lv_at hl 10 rfl) ?_
                      refine lv_iload hx hb dX7_plan_381 (lv_at hl 5 rfl) ?_
                      refine lv_icmp_ne (tgt := 397) hx hb dX7_plan_383 (by decide) (fun c1 => ?_) (fun c1 => ?_)
                      · skip
                        have hsh := ite_t hsh c1
                        exact Jk124_397 x8_k124_306 x10_k124_306 x11_k124_306 x13_k124_306 (o_325 + (x11_k124_306 + (v_rest * x12_k124_306))) w_depth_k124_306 H locs hP hD hS ls (lv_sub hl [1, 2, 3, 4, 5, 6, 7, 8, 9, 10, 12, 0] rfl) hsh
                      · skip
                        have hsh := ite_f hsh (fun h => h c1)
                        refine lv_iload hx hb dX7_plan_386 (lv_at hl 0 rfl) ?_
                        refine lv_iload hx hb dX7_plan_388 (lv_at hl 6 rfl) ?_
                        refine lv_icmp_ge (tgt := 397) hx hb dX7_plan_390 (by decide) (fun c1 => ?_) (fun c1 => ?_)
                        · skip
                          have hsh := ite_t hsh c1
                          exact Jk124_397 x8_k124_306 x10_k124_306 x11_k124_306 x13_k124_306 (o_325 + (x11_k124_306 + (v_rest * x12_k124_306))) w_depth_k124_306 H locs hP hD hS ls (lv_sub hl [1, 2, 3, 4, 5, 6, 7, 8, 9, 10, 12, 0] rfl) hsh
                        · skip
                          have hsh := ite_f hsh c1
                          exact Jk124_393 x8_k124_306 x10_k124_306 x11_k124_306 x13_k124_306 (o_325 + (x11_k124_306 + (v_rest * x12_k124_306))) w_depth_k124_306 H locs hP hD hS ls (lv_sub hl [1, 2, 3, 4, 5, 6, 7, 8, 9, 10, 12, 0] rfl) hsh
                · skip
                  have hsh := ite_f hsh c1
                  refine lv_goto (tgt := 124) hx hb dX7_plan_362 (by decide) ?_
                  exact ih_124 x3_124 x5_124 x6_124 x7_124 x8_k124_306 w_depth_k124_306 w_bestDepth_124 H locs hP hD hS ls (lv_sub hl [1, 2, 3, 4, 5, 6, 7, 8] rfl) (hB1_124 _ hsh)
              · skip
                have hsh := ite_f hsh c1
                refine lv_goto (tgt := 124) hx hb dX7_plan_338 (by decide) ?_
                exact ih_124 x3_124 x5_124 x6_124 x7_124 x8_k124_306 w_depth_k124_306 w_bestDepth_124 H locs hP hD hS ls (lv_sub hl [1, 2, 3, 4, 5, 6, 7, 8] rfl) (hB1_124 _ hsh)
            · have c1 := fun h => c1 ((lg_cmp_ge _ _).mpr h)
              have hsh := ite_f hsh c1
              refine lv_goto (tgt := 124) hx hb dX7_plan_319 (by decide) ?_
              exact ih_124 x3_124 x5_124 x6_124 x7_124 x8_k124_306 w_depth_k124_306 w_bestDepth_124 H locs hP hD hS ls (lv_sub hl [0, 1, 2, 3, 4, 5, 6, 7] rfl) (hB1_124 _ hsh)
        have Jk124_184 : ∀ (s0_k124_184 : Int32) (x9_k124_184 : Int32) (w_depth_k124_184 : Nat → Int32) (H : Heap) (locs : List Loc), va_P D vwCl (wdX7_plan cI cJ cZ q_this q_tape q_prior q_pipesIn q_pipe q_met q_chance q_rock q_people q_bad q_well q_ends q_runs q_way q_words q_told q_weight q_days q_depth q_bestDepth q_hopes q_planOf q_planDepth v_tapeSize v_thrown_j_110 v_salt v_dry v_rest v_fault v_faultPlace v_rocks v_villages v_day v_at v_allPipes v_end v_next v_kind v_which v_place v_isPlan v_planMany v_planPipes v_planDays w_prior w_pipesIn w_pipe w_met w_chance w_rock w_people w_bad w_well w_way w_weight_j_110 w_days_j_110 w_depth_k124_184 w_bestDepth_124 w_hopes_j_110 w_planOf w_planDepth) H → va_D A (wdX7_plan cI cJ cZ q_this q_tape q_prior q_pipesIn q_pipe q_met q_chance q_rock q_people q_bad q_well q_ends q_runs q_way q_words q_told q_weight q_days q_depth q_bestDepth q_hopes q_planOf q_planDepth v_tapeSize v_thrown_j_110 v_salt v_dry v_rest v_fault v_faultPlace v_rocks v_villages v_day v_at v_allPipes v_end v_next v_kind v_which v_place v_isPlan v_planMany v_planPipes v_planDays w_prior w_pipesIn w_pipe w_met w_chance w_rock w_people w_bad w_well w_way w_weight_j_110 w_days_j_110 w_depth_k124_184 w_bestDepth_124 w_hopes_j_110 w_planOf w_planDepth) → va_S A s.heap H locs → ∀ ls : Array Slot, lv_has ls 18 [(0, .ref q_this), (1, .int a1), (2, .int a2), (3, .long x3_124), (5, .int x5_124), (6, .int x6_124), (7, .int x7_124), (9, .int x9_k124_184)] → shX7_plan_k124_184 a1 a2 v_rest v_villages v_at w_people w_way w_days_j_110 w_hopes_j_110 x3_124 x5_124 x6_124 x7_124 w_bestDepth_124 s0_k124_184 x9_k124_184 w_depth_k124_184 = some b_124 → W p l e rmX7_plan s m args below meth c H locs 0 0 Q (F0 m 184 ls [.int s0_k124_184]) := by
          intro s0_k124_184 x9_k124_184 w_depth_k124_184 H locs hP hD hS ls hl hsh
          unfold shX7_plan_k124_184 at hsh
          refine lv_istore (lv' := [(8, .int s0_k124_184), (0, .ref q_this), (1, .int a1), (2, .int a2), (3, .long x3_124), (5, .int x5_124), (6, .int x6_124), (7, .int x7_124), (9, .int x9_k124_184)]) hx hb dX7_plan_184 hl (by decide) rfl (fun ls hl => ?_)
          refine lv_iload hx hb dX7_plan_186 (lv_at hl 0 rfl) ?_
          refine lv_if_ne (tgt := 194) hx hb dX7_plan_188 (by decide) (fun c1 => ?_) (fun c1 => ?_)
          · skip
            have hsh := ite_t hsh c1
            refine lv_aload_n hx hb dX7_plan_194 rfl (lv_at hl 1 rfl) ?_
            refine kget (ci := 7) S hK hP rfl inX7_plan_X7 0 rfl 34 (by decide) lkX7_plan_73 rfl dX7_plan_195 ?_
            refine lv_iload hx hb dX7_plan_198 (lv_at hl 8 rfl) ?_
            refine lv_dup2_11 hx hb dX7_plan_200 rfl rfl ?_
            obtain ⟨_, hg, hsh⟩ := bd hsh
            refine kial S hK hP 13 0 rfl rfl (gd_in hg) dX7_plan_201 ?_
            refine lv_iconst (v := (1 : Int32)) hx hb dX7_plan_202 (by decide) ?_
            refine lv_iadd hx hb dX7_plan_203 ?_
            obtain ⟨_, hg, hsh⟩ := bd hsh
            refine kias S hK hP hD hS 13 0 rfl rfl (gd_in hg) (ws' := (wdX7_plan cI cJ cZ q_this q_tape q_prior q_pipesIn q_pipe q_met q_chance q_rock q_people q_bad q_well q_ends q_runs q_way q_words q_told q_weight q_days q_depth q_bestDepth q_hopes q_planOf q_planDepth v_tapeSize v_thrown_j_110 v_salt v_dry v_rest v_fault v_faultPlace v_rocks v_villages v_day v_at v_allPipes v_end v_next v_kind v_which v_place v_isPlan v_planMany v_planPipes v_planDays w_prior w_pipesIn w_pipe w_met w_chance w_rock w_people w_bad w_well w_way w_weight_j_110 w_days_j_110 (upd w_depth_k124_184 (x9_k124_184).toNatClampNeg ((w_depth_k124_184 (x9_k124_184).toNatClampNeg) + (1 : Int32))) w_bestDepth_124 w_hopes_j_110 w_planOf w_planDepth)) rfl dX7_plan_204 (fun H locs hP hD hS => ?_)
            refine lv_iconst (v := (0 : Int32)) hx hb dX7_plan_205 (by decide) ?_
            refine lv_istore (lv' := [(10, .int (0 : Int32)), (8, .int s0_k124_184), (0, .ref q_this), (1, .int a1), (2, .int a2), (3, .long x3_124), (5, .int x5_124), (6, .int x6_124), (7, .int x7_124), (9, .int x9_k124_184)]) hx hb dX7_plan_206 hl (by decide) rfl (fun ls hl => ?_)
            refine lv_iconst (v := (0 : Int32)) hx hb dX7_plan_208 (by decide) ?_
            refine lv_istore (lv' := [(11, .int (0 : Int32)), (10, .int (0 : Int32)), (8, .int s0_k124_184), (0, .ref q_this), (1, .int a1), (2, .int a2), (3, .long x3_124), (5, .int x5_124), (6, .int x6_124), (7, .int x7_124), (9, .int x9_k124_184)]) hx hb dX7_plan_209 hl (by decide) rfl (fun ls hl => ?_)
            refine lv_iconst (v := (0 : Int32)) hx hb dX7_plan_211 (by decide) ?_
            refine lv_istore (lv' := [(12, .int (0 : Int32)), (11, .int (0 : Int32)), (10, .int (0 : Int32)), (8, .int s0_k124_184), (0, .ref q_this), (1, .int a1), (2, .int a2), (3, .long x3_124), (5, .int x5_124), (6, .int x6_124), (7, .int x7_124), (9, .int x9_k124_184)]) hx hb dX7_plan_212 hl (by decide) rfl (fun ls hl => ?_)
            refine lv_lconst (v := (0 : Int64)) hx hb dX7_plan_214 (by decide) ?_
            refine lv_lstore (lv' := [(13, .long (0 : Int64)), (12, .int (0 : Int32)), (11, .int (0 : Int32)), (10, .int (0 : Int32)), (8, .int s0_k124_184), (0, .ref q_this), (1, .int a1), (2, .int a2), (3, .long x3_124), (5, .int x5_124), (6, .int x6_124), (7, .int x7_124), (9, .int x9_k124_184)]) hx hb dX7_plan_215 hl (by decide) rfl (fun ls hl => ?_)
            refine lv_iconst (v := (1 : Int32)) hx hb dX7_plan_217 (by decide) ?_
            refine lv_istore (lv' := [(15, .int (1 : Int32)), (13, .long (0 : Int64)), (12, .int (0 : Int32)), (11, .int (0 : Int32)), (10, .int (0 : Int32)), (8, .int s0_k124_184), (0, .ref q_this), (1, .int a1), (2, .int a2), (3, .long x3_124), (5, .int x5_124), (6, .int x6_124), (7, .int x7_124), (9, .int x9_k124_184)]) hx hb dX7_plan_218 hl (by decide) rfl (fun ls hl => ?_)
            obtain ⟨r_220, hl_220, hk_220⟩ := bd hsh
            obtain ⟨n_220, hn_220⟩ := lp_iff.mp hl_220
            have L_220 : ∀ (n : Nat) (x10_220 : Int32) (x11_220 : Int32) (x12_220 : Int32) (x13_220 : Int64) (x15_220 : Int32) (H : Heap) (locs : List Loc), va_P D vwCl (wdX7_plan cI cJ cZ q_this q_tape q_prior q_pipesIn q_pipe q_met q_chance q_rock q_people q_bad q_well q_ends q_runs q_way q_words q_told q_weight q_days q_depth q_bestDepth q_hopes q_planOf q_planDepth v_tapeSize v_thrown_j_110 v_salt v_dry v_rest v_fault v_faultPlace v_rocks v_villages v_day v_at v_allPipes v_end v_next v_kind v_which v_place v_isPlan v_planMany v_planPipes v_planDays w_prior w_pipesIn w_pipe w_met w_chance w_rock w_people w_bad w_well w_way w_weight_j_110 w_days_j_110 (upd w_depth_k124_184 (x9_k124_184).toNatClampNeg ((w_depth_k124_184 (x9_k124_184).toNatClampNeg) + (1 : Int32))) w_bestDepth_124 w_hopes_j_110 w_planOf w_planDepth) H → va_D A (wdX7_plan cI cJ cZ q_this q_tape q_prior q_pipesIn q_pipe q_met q_chance q_rock q_people q_bad q_well q_ends q_runs q_way q_words q_told q_weight q_days q_depth q_bestDepth q_hopes q_planOf q_planDepth v_tapeSize v_thrown_j_110 v_salt v_dry v_rest v_fault v_faultPlace v_rocks v_villages v_day v_at v_allPipes v_end v_next v_kind v_which v_place v_isPlan v_planMany v_planPipes v_planDays w_prior w_pipesIn w_pipe w_met w_chance w_rock w_people w_bad w_well w_way w_weight_j_110 w_days_j_110 (upd w_depth_k124_184 (x9_k124_184).toNatClampNeg ((w_depth_k124_184 (x9_k124_184).toNatClampNeg) + (1 : Int32))) w_bestDepth_124 w_hopes_j_110 w_planOf w_planDepth) → va_S A s.heap H locs → ∀ ls : Array Slot, lv_has ls 18 [(0, .ref q_this), (1, .int a1), (2, .int a2), (3, .long x3_124), (5, .int x5_124), (6, .int x6_124), (7, .int x7_124), (8, .int s0_k124_184), (10, .int x10_220), (11, .int x11_220), (12, .int x12_220), (13, .long x13_220), (15, .int x15_220)] → it (fun s : Int32 × Int32 × Int32 × Int64 × Int32 => shX7_plan_L220 v_villages w_people w_hopes_j_110 x9_k124_184 w_depth_k124_184 s.1 s.2.1 s.2.2.1 s.2.2.2.1 s.2.2.2.2) n (x10_220, x11_220, x12_220, x13_220, x15_220) = some r_220 → W p l e rmX7_plan s m args below meth c H locs 0 0 Q (F0 m 220 ls []) := by
              intro n
              induction n with
              | zero => exact fun _ _ _ _ _ _ _ _ _ _ _ _ hi => it_0 hi
              | succ n ih_220 =>
                intro x10_220 x11_220 x12_220 x13_220 x15_220 H locs hP hD hS ls hl hi
                obtain ⟨b_220, hsh, hB1_220, hB2_220⟩ := it_b hi
                replace hsh : shX7_plan_L220 v_villages w_people w_hopes_j_110 x9_k124_184 w_depth_k124_184 x10_220 x11_220 x12_220 x13_220 x15_220 = some b_220 := hsh
                unfold shX7_plan_L220 at hsh
                have Jk220_300 : ∀ (x10_k220_300 : Int32) (x11_k220_300 : Int32) (x12_k220_300 : Int32) (x13_k220_300 : Int64) (H : Heap) (locs : List Loc), va_P D vwCl (wdX7_plan cI cJ cZ q_this q_tape q_prior q_pipesIn q_pipe q_met q_chance q_rock q_people q_bad q_well q_ends q_runs q_way q_words q_told q_weight q_days q_depth q_bestDepth q_hopes q_planOf q_planDepth v_tapeSize v_thrown_j_110 v_salt v_dry v_rest v_fault v_faultPlace v_rocks v_villages v_day v_at v_allPipes v_end v_next v_kind v_which v_place v_isPlan v_planMany v_planPipes v_planDays w_prior w_pipesIn w_pipe w_met w_chance w_rock w_people w_bad w_well w_way w_weight_j_110 w_days_j_110 (upd w_depth_k124_184 (x9_k124_184).toNatClampNeg ((w_depth_k124_184 (x9_k124_184).toNatClampNeg) + (1 : Int32))) w_bestDepth_124 w_hopes_j_110 w_planOf w_planDepth) H → va_D A (wdX7_plan cI cJ cZ q_this q_tape q_prior q_pipesIn q_pipe q_met q_chance q_rock q_people q_bad q_well q_ends q_runs q_way q_words q_told q_weight q_days q_depth q_bestDepth q_hopes q_planOf q_planDepth v_tapeSize v_thrown_j_110 v_salt v_dry v_rest v_fault v_faultPlace v_rocks v_villages v_day v_at v_allPipes v_end v_next v_kind v_which v_place v_isPlan v_planMany v_planPipes v_planDays w_prior w_pipesIn w_pipe w_met w_chance w_rock w_people w_bad w_well w_way w_weight_j_110 w_days_j_110 (upd w_depth_k124_184 (x9_k124_184).toNatClampNeg ((w_depth_k124_184 (x9_k124_184).toNatClampNeg) + (1 : Int32))) w_bestDepth_124 w_hopes_j_110 w_planOf w_planDepth) → va_S A s.heap H locs → ∀ ls : Array Slot, lv_has ls 18 [(0, .ref q_this), (1, .int a1), (2, .int a2), (3, .long x3_124), (5, .int x5_124), (6, .int x6_124), (7, .int x7_124), (8, .int s0_k124_184), (10, .int x10_k220_300), (11, .int x11_k220_300), (12, .int x12_k220_300), (13, .long x13_k220_300), (15, .int x15_220)] → shX7_plan_k220_300 x15_220 x10_k220_300 x11_k220_300 x12_k220_300 x13_k220_300 = some b_220 → W p l e rmX7_plan s m args below meth c H locs 0 0 Q (F0 m 300 ls []) := by
                  intro x10_k220_300 x11_k220_300 x12_k220_300 x13_k220_300 H locs hP hD hS ls hl hsh
                  unfold shX7_plan_k220_300 at hsh
                  refine lv_iinc (v := (x15_220 + (1 : Int32))) (lv' := [(15, .int (x15_220 + (1 : Int32))), (0, .ref q_this), (1, .int a1), (2, .int a2), (3, .long x3_124), (5, .int x5_124), (6, .int x6_124), (7, .int x7_124), (8, .int s0_k124_184), (10, .int x10_k220_300), (11, .int x11_k220_300), (12, .int x12_k220_300), (13, .long x13_k220_300)]) hx hb dX7_plan_300 hl (k := 12) rfl (congrArg (fun z : Int32 => x15_220 + z) (by decide)) (by decide) rfl (fun ls hl => ?_)
                  refine lv_goto (tgt := 220) hx hb dX7_plan_303 (by decide) ?_
                  exact ih_220 x10_k220_300 x11_k220_300 x12_k220_300 x13_k220_300 (x15_220 + (1 : Int32)) H locs hP hD hS ls (lv_sub hl [1, 2, 3, 4, 5, 6, 7, 8, 9, 10, 11, 12, 0] rfl) (hB1_220 _ hsh)
                refine lv_iload hx hb dX7_plan_220 (lv_at hl 12 rfl) ?_
                refine lv_aload_n hx hb dX7_plan_222 rfl (lv_at hl 0 rfl) ?_
                refine kget (ci := 7) S hK hP rfl inX7_plan_X7 0 rfl 14 (by decide) lkX7_plan_143 rfl dX7_plan_223 ?_
                refine lv_icmp_gt (tgt := 306) hx hb dX7_plan_226 (by decide) (fun c1 => ?_) (fun c1 => ?_)
                · skip
                  have hsh := ite_t hsh c1
                  have he := hB2_220 _ hsh
                  rw [← he] at hk_220
                  exact Jk124_306 s0_k124_184 x10_220 x11_220 x12_220 x13_220 (upd w_depth_k124_184 (x9_k124_184).toNatClampNeg ((w_depth_k124_184 (x9_k124_184).toNatClampNeg) + (1 : Int32))) H locs hP hD hS ls (lv_sub hl [0, 1, 2, 3, 4, 5, 6, 7, 8, 9, 10, 11] rfl) hk_220
                · skip
                  have hsh := ite_f hsh c1
                  refine lv_aload_n hx hb dX7_plan_229 rfl (lv_at hl 0 rfl) ?_
                  refine kget (ci := 7) S hK hP rfl inX7_plan_X7 0 rfl 34 (by decide) lkX7_plan_73 rfl dX7_plan_230 ?_
                  refine lv_iload hx hb dX7_plan_233 (lv_at hl 12 rfl) ?_
                  obtain ⟨_, hg, hsh⟩ := bd hsh
                  refine kial S hK hP 13 0 rfl rfl (gd_in hg) dX7_plan_235 ?_
                  refine lv_if_ne (tgt := 242) hx hb dX7_plan_236 (by decide) (fun c1 => ?_) (fun c1 => ?_)
                  · skip
                    have hsh := ite_t hsh c1
                    refine lv_iload hx hb dX7_plan_242 (lv_at hl 8 rfl) ?_
                    refine lv_iconst (v := (1 : Int32)) hx hb dX7_plan_244 (by decide) ?_
                    refine lv_iload hx hb dX7_plan_245 (lv_at hl 12 rfl) ?_
                    refine lv_iconst (v := (1 : Int32)) hx hb dX7_plan_247 (by decide) ?_
                    refine lv_isub hx hb dX7_plan_248 ?_
                    refine lv_ishl hx hb dX7_plan_249 ?_
                    refine lv_ior hx hb dX7_plan_250 ?_
                    refine lv_istore (lv' := [(10, .int (x10_220 ||| ((1 : Int32) <<< ((x15_220 - (1 : Int32)) &&& 31)))), (0, .ref q_this), (1, .int a1), (2, .int a2), (3, .long x3_124), (5, .int x5_124), (6, .int x6_124), (7, .int x7_124), (8, .int s0_k124_184), (11, .int x11_220), (12, .int x12_220), (13, .long x13_220), (15, .int x15_220)]) hx hb dX7_plan_251 hl (by decide) rfl (fun ls hl => ?_)
                    refine lv_iload hx hb dX7_plan_253 (lv_at hl 9 rfl) ?_
                    refine lv_aload_n hx hb dX7_plan_255 rfl (lv_at hl 1 rfl) ?_
                    refine kget (ci := 7) S hK hP rfl inX7_plan_X7 0 rfl 34 (by decide) lkX7_plan_73 rfl dX7_plan_256 ?_
                    refine lv_iload hx hb dX7_plan_259 (lv_at hl 12 rfl) ?_
                    obtain ⟨_, hg, hsh⟩ := bd hsh
                    refine kial S hK hP 13 0 rfl rfl (gd_in hg) dX7_plan_261 ?_
                    refine lv_iadd hx hb dX7_plan_262 ?_
                    refine lv_istore (lv' := [(11, .int (x11_220 + ((upd w_depth_k124_184 (x9_k124_184).toNatClampNeg ((w_depth_k124_184 (x9_k124_184).toNatClampNeg) + (1 : Int32))) (x15_220).toNatClampNeg))), (10, .int (x10_220 ||| ((1 : Int32) <<< ((x15_220 - (1 : Int32)) &&& 31)))), (0, .ref q_this), (1, .int a1), (2, .int a2), (3, .long x3_124), (5, .int x5_124), (6, .int x6_124), (7, .int x7_124), (8, .int s0_k124_184), (12, .int x12_220), (13, .long x13_220), (15, .int x15_220)]) hx hb dX7_plan_263 hl (by decide) rfl (fun ls hl => ?_)
                    refine lv_iinc (v := (x12_220 + (1 : Int32))) (lv' := [(12, .int (x12_220 + (1 : Int32))), (11, .int (x11_220 + ((upd w_depth_k124_184 (x9_k124_184).toNatClampNeg ((w_depth_k124_184 (x9_k124_184).toNatClampNeg) + (1 : Int32))) (x15_220).toNatClampNeg))), (10, .int (x10_220 ||| ((1 : Int32) <<< ((x15_220 - (1 : Int32)) &&& 31)))), (0, .ref q_this), (1, .int a1), (2, .int a2), (3, .long x3_124), (5, .int x5_124), (6, .int x6_124), (7, .int x7_124), (8, .int s0_k124_184), (13, .long x13_220), (15, .int x15_220)]) hx hb dX7_plan_265 hl (k := 10) rfl (congrArg (fun z : Int32 => x12_220 + z) (by decide)) (by decide) rfl (fun ls hl => ?_)
                    refine lv_lload hx hb dX7_plan_268 (lv_at hl 11 rfl) ?_
                    refine lv_aload_n hx hb dX7_plan_270 rfl (lv_at hl 3 rfl) ?_
                    refine kget (ci := 7) S hK hP rfl inX7_plan_X7 0 rfl 16 (by decide) lkX7_plan_42 rfl dX7_plan_271 ?_
                    refine lv_iload hx hb dX7_plan_274 (lv_at hl 12 rfl) ?_
                    obtain ⟨_, hg, hsh⟩ := bd hsh
                    refine kial S hK hP 7 0 rfl rfl (gd_in hg) dX7_plan_276 ?_
                    refine lv_i2l hx hb dX7_plan_277 rfl ?_
                    refine lv_aload_n hx hb dX7_plan_278 rfl (lv_at hl 3 rfl) ?_
                    refine kget (ci := 7) S hK hP rfl inX7_plan_X7 0 rfl 36 (by decide) lkX7_plan_79 rfl dX7_plan_279 ?_
                    refine lv_iconst (v := (5 : Int32)) hx hb dX7_plan_282 (by decide) ?_
                    refine lv_iload hx hb dX7_plan_283 (lv_at hl 12 rfl) ?_
                    refine lv_imul hx hb dX7_plan_285 ?_
                    refine lv_aload_n hx hb dX7_plan_286 rfl (lv_at hl 3 rfl) ?_
                    refine kget (ci := 7) S hK hP rfl inX7_plan_X7 0 rfl 34 (by decide) lkX7_plan_73 rfl dX7_plan_287 ?_
                    refine lv_iload hx hb dX7_plan_290 (lv_at hl 12 rfl) ?_
                    obtain ⟨_, hg, hsh⟩ := bd hsh
                    refine kial S hK hP 13 0 rfl rfl (gd_in hg) dX7_plan_292 ?_
                    refine lv_iadd hx hb dX7_plan_293 ?_
                    obtain ⟨_, hg, hsh⟩ := bd hsh
                    refine kial S hK hP 15 0 rfl rfl (gd_in hg) dX7_plan_294 ?_
                    refine lv_i2l hx hb dX7_plan_295 rfl ?_
                    refine lv_lmul hx hb dX7_plan_296 ?_
                    refine lv_ladd hx hb dX7_plan_297 ?_
                    refine lv_lstore (lv' := [(13, .long (x13_220 + (((w_people (x15_220).toNatClampNeg)).toInt64 * ((w_hopes_j_110 ((((5 : Int32) * x15_220) + ((upd w_depth_k124_184 (x9_k124_184).toNatClampNeg ((w_depth_k124_184 (x9_k124_184).toNatClampNeg) + (1 : Int32))) (x15_220).toNatClampNeg))).toNatClampNeg)).toInt64))), (12, .int (x12_220 + (1 : Int32))), (11, .int (x11_220 + ((upd w_depth_k124_184 (x9_k124_184).toNatClampNeg ((w_depth_k124_184 (x9_k124_184).toNatClampNeg) + (1 : Int32))) (x15_220).toNatClampNeg))), (10, .int (x10_220 ||| ((1 : Int32) <<< ((x15_220 - (1 : Int32)) &&& 31)))), (0, .ref q_this), (1, .int a1), (2, .int a2), (3, .long x3_124), (5, .int x5_124), (6, .int x6_124), (7, .int x7_124), (8, .int s0_k124_184), (15, .int x15_220)]) hx hb dX7_plan_298 hl (by decide) rfl (fun ls hl => ?_)
                    exact Jk220_300 (x10_220 ||| ((1 : Int32) <<< ((x15_220 - (1 : Int32)) &&& 31))) (x11_220 + ((upd w_depth_k124_184 (x9_k124_184).toNatClampNeg ((w_depth_k124_184 (x9_k124_184).toNatClampNeg) + (1 : Int32))) (x15_220).toNatClampNeg)) (x12_220 + (1 : Int32)) (x13_220 + (((w_people (x15_220).toNatClampNeg)).toInt64 * ((w_hopes_j_110 ((((5 : Int32) * x15_220) + ((upd w_depth_k124_184 (x9_k124_184).toNatClampNeg ((w_depth_k124_184 (x9_k124_184).toNatClampNeg) + (1 : Int32))) (x15_220).toNatClampNeg))).toNatClampNeg)).toInt64)) H locs hP hD hS ls (lv_sub hl [4, 5, 6, 7, 8, 9, 10, 11, 3, 2, 1, 0, 12] rfl) hsh
                  · skip
                    have hsh := ite_f hsh (fun h => h c1)
                    refine lv_goto (tgt := 300) hx hb dX7_plan_239 (by decide) ?_
                    exact Jk220_300 x10_220 x11_220 x12_220 x13_220 H locs hP hD hS ls (lv_sub hl [0, 1, 2, 3, 4, 5, 6, 7, 8, 9, 10, 11, 12] rfl) hsh
            exact L_220 n_220 (0 : Int32) (0 : Int32) (0 : Int32) (0 : Int64) (1 : Int32) H locs hP hD hS ls (lv_sub hl [6, 7, 8, 9, 10, 11, 12, 5, 4, 3, 2, 1, 0] rfl) hn_220
          · skip
            have hsh := ite_f hsh (fun h => h c1)
            refine lv_goto (tgt := 124) hx hb dX7_plan_191 (by decide) ?_
            exact ih_124 x3_124 x5_124 x6_124 x7_124 s0_k124_184 w_depth_k124_184 w_bestDepth_124 H locs hP hD hS ls (lv_sub hl [1, 2, 3, 4, 5, 6, 7, 0] rfl) (hB1_124 _ hsh)
        have Jk124_174 : ∀ (x9_k124_174 : Int32) (w_depth_k124_174 : Nat → Int32) (H : Heap) (locs : List Loc), va_P D vwCl (wdX7_plan cI cJ cZ q_this q_tape q_prior q_pipesIn q_pipe q_met q_chance q_rock q_people q_bad q_well q_ends q_runs q_way q_words q_told q_weight q_days q_depth q_bestDepth q_hopes q_planOf q_planDepth v_tapeSize v_thrown_j_110 v_salt v_dry v_rest v_fault v_faultPlace v_rocks v_villages v_day v_at v_allPipes v_end v_next v_kind v_which v_place v_isPlan v_planMany v_planPipes v_planDays w_prior w_pipesIn w_pipe w_met w_chance w_rock w_people w_bad w_well w_way w_weight_j_110 w_days_j_110 w_depth_k124_174 w_bestDepth_124 w_hopes_j_110 w_planOf w_planDepth) H → va_D A (wdX7_plan cI cJ cZ q_this q_tape q_prior q_pipesIn q_pipe q_met q_chance q_rock q_people q_bad q_well q_ends q_runs q_way q_words q_told q_weight q_days q_depth q_bestDepth q_hopes q_planOf q_planDepth v_tapeSize v_thrown_j_110 v_salt v_dry v_rest v_fault v_faultPlace v_rocks v_villages v_day v_at v_allPipes v_end v_next v_kind v_which v_place v_isPlan v_planMany v_planPipes v_planDays w_prior w_pipesIn w_pipe w_met w_chance w_rock w_people w_bad w_well w_way w_weight_j_110 w_days_j_110 w_depth_k124_174 w_bestDepth_124 w_hopes_j_110 w_planOf w_planDepth) → va_S A s.heap H locs → ∀ ls : Array Slot, lv_has ls 18 [(0, .ref q_this), (1, .int a1), (2, .int a2), (3, .long x3_124), (5, .int x5_124), (6, .int x6_124), (7, .int x7_124), (9, .int x9_k124_174)] → shX7_plan_k124_174 a1 a2 v_rest v_villages v_at w_people w_way w_days_j_110 w_hopes_j_110 x3_124 x5_124 x6_124 x7_124 w_bestDepth_124 x9_k124_174 w_depth_k124_174 = some b_124 → W p l e rmX7_plan s m args below meth c H locs 0 0 Q (F0 m 174 ls []) := by
          intro x9_k124_174 w_depth_k124_174 H locs hP hD hS ls hl hsh
          unfold shX7_plan_k124_174 at hsh
          refine lv_iload hx hb dX7_plan_174 (lv_at hl 7 rfl) ?_
          refine lv_if_le (tgt := 183) hx hb dX7_plan_176 (by decide) (fun c1 => ?_) (fun c1 => ?_)
          · skip
            have hsh := ite_t hsh c1
            refine lv_iconst (v := (0 : Int32)) hx hb dX7_plan_183 (by decide) ?_
            exact Jk124_184 (0 : Int32) x9_k124_174 w_depth_k124_174 H locs hP hD hS ls (lv_sub hl [0, 1, 2, 3, 4, 5, 6, 7] rfl) hsh
          · skip
            have hsh := ite_f hsh c1
            refine lv_iconst (v := (1 : Int32)) hx hb dX7_plan_179 (by decide) ?_
            refine lv_goto (tgt := 184) hx hb dX7_plan_180 (by decide) ?_
            exact Jk124_184 (1 : Int32) x9_k124_174 w_depth_k124_174 H locs hP hD hS ls (lv_sub hl [0, 1, 2, 3, 4, 5, 6, 7] rfl) hsh
        refine lv_iload hx hb dX7_plan_124 (lv_at hl 7 rfl) ?_
        refine lv_if_eq (tgt := 458) hx hb dX7_plan_126 (by decide) (fun c1 => ?_) (fun c1 => ?_)
        · skip
          have hsh := ite_t hsh c1
          have he := hB2_124 _ hsh
          rw [← he] at hk_124
          exact Jj_458 x3_124 x5_124 x6_124 x7_124 v_thrown_j_110 w_weight_j_110 w_days_j_110 w_depth_124 w_bestDepth_124 w_hopes_j_110 H locs hP hD hS ls (lv_sub hl [0, 3, 4, 5, 6] rfl) hk_124
        · skip
          have hsh := ite_f hsh c1
          refine lv_aload_n hx hb dX7_plan_129 rfl (lv_at hl 0 rfl) ?_
          refine kget (ci := 7) S hK hP rfl inX7_plan_X7 0 rfl 14 (by decide) lkX7_plan_143 rfl dX7_plan_130 ?_
          refine lv_istore (lv' := [(9, .int v_villages), (0, .ref q_this), (1, .int a1), (2, .int a2), (3, .long x3_124), (5, .int x5_124), (6, .int x6_124), (7, .int x7_124), (8, .int x8_124)]) hx hb dX7_plan_133 hl (by decide) rfl (fun ls hl => ?_)
          obtain ⟨r_135, hl_135, hk_135⟩ := bd hsh
          obtain ⟨n_135, hn_135⟩ := lp_iff.mp hl_135
          have L_135 : ∀ (n : Nat) (x9_135 : Int32) (w_depth_135 : Nat → Int32) (H : Heap) (locs : List Loc), va_P D vwCl (wdX7_plan cI cJ cZ q_this q_tape q_prior q_pipesIn q_pipe q_met q_chance q_rock q_people q_bad q_well q_ends q_runs q_way q_words q_told q_weight q_days q_depth q_bestDepth q_hopes q_planOf q_planDepth v_tapeSize v_thrown_j_110 v_salt v_dry v_rest v_fault v_faultPlace v_rocks v_villages v_day v_at v_allPipes v_end v_next v_kind v_which v_place v_isPlan v_planMany v_planPipes v_planDays w_prior w_pipesIn w_pipe w_met w_chance w_rock w_people w_bad w_well w_way w_weight_j_110 w_days_j_110 w_depth_135 w_bestDepth_124 w_hopes_j_110 w_planOf w_planDepth) H → va_D A (wdX7_plan cI cJ cZ q_this q_tape q_prior q_pipesIn q_pipe q_met q_chance q_rock q_people q_bad q_well q_ends q_runs q_way q_words q_told q_weight q_days q_depth q_bestDepth q_hopes q_planOf q_planDepth v_tapeSize v_thrown_j_110 v_salt v_dry v_rest v_fault v_faultPlace v_rocks v_villages v_day v_at v_allPipes v_end v_next v_kind v_which v_place v_isPlan v_planMany v_planPipes v_planDays w_prior w_pipesIn w_pipe w_met w_chance w_rock w_people w_bad w_well w_way w_weight_j_110 w_days_j_110 w_depth_135 w_bestDepth_124 w_hopes_j_110 w_planOf w_planDepth) → va_S A s.heap H locs → ∀ ls : Array Slot, lv_has ls 18 [(0, .ref q_this), (1, .int a1), (2, .int a2), (3, .long x3_124), (5, .int x5_124), (6, .int x6_124), (7, .int x7_124), (9, .int x9_135)] → it (fun s : Int32 × (Nat → Int32) => shX7_plan_L135 v_dry w_bad w_well s.1 s.2) n (x9_135, w_depth_135) = some r_135 → W p l e rmX7_plan s m args below meth c H locs 0 0 Q (F0 m 135 ls []) := by
            intro n
            induction n with
            | zero => exact fun _ _ _ _ _ _ _ _ _ hi => it_0 hi
            | succ n ih_135 =>
              intro x9_135 w_depth_135 H locs hP hD hS ls hl hi
              obtain ⟨b_135, hsh, hB1_135, hB2_135⟩ := it_b hi
              replace hsh : shX7_plan_L135 v_dry w_bad w_well x9_135 w_depth_135 = some b_135 := hsh
              unfold shX7_plan_L135 at hsh
              have Jk135_160 : ∀ (H : Heap) (locs : List Loc), va_P D vwCl (wdX7_plan cI cJ cZ q_this q_tape q_prior q_pipesIn q_pipe q_met q_chance q_rock q_people q_bad q_well q_ends q_runs q_way q_words q_told q_weight q_days q_depth q_bestDepth q_hopes q_planOf q_planDepth v_tapeSize v_thrown_j_110 v_salt v_dry v_rest v_fault v_faultPlace v_rocks v_villages v_day v_at v_allPipes v_end v_next v_kind v_which v_place v_isPlan v_planMany v_planPipes v_planDays w_prior w_pipesIn w_pipe w_met w_chance w_rock w_people w_bad w_well w_way w_weight_j_110 w_days_j_110 w_depth_135 w_bestDepth_124 w_hopes_j_110 w_planOf w_planDepth) H → va_D A (wdX7_plan cI cJ cZ q_this q_tape q_prior q_pipesIn q_pipe q_met q_chance q_rock q_people q_bad q_well q_ends q_runs q_way q_words q_told q_weight q_days q_depth q_bestDepth q_hopes q_planOf q_planDepth v_tapeSize v_thrown_j_110 v_salt v_dry v_rest v_fault v_faultPlace v_rocks v_villages v_day v_at v_allPipes v_end v_next v_kind v_which v_place v_isPlan v_planMany v_planPipes v_planDays w_prior w_pipesIn w_pipe w_met w_chance w_rock w_people w_bad w_well w_way w_weight_j_110 w_days_j_110 w_depth_135 w_bestDepth_124 w_hopes_j_110 w_planOf w_planDepth) → va_S A s.heap H locs → ∀ ls : Array Slot, lv_has ls 18 [(0, .ref q_this), (1, .int a1), (2, .int a2), (3, .long x3_124), (5, .int x5_124), (6, .int x6_124), (7, .int x7_124), (9, .int x9_135)] → shX7_plan_k135_160 x9_135 w_depth_135 = some b_135 → W p l e rmX7_plan s m args below meth c H locs 0 0 Q (F0 m 160 ls []) := by
                intro  H locs hP hD hS ls hl hsh
                unfold shX7_plan_k135_160 at hsh
                refine lv_aload_n hx hb dX7_plan_160 rfl (lv_at hl 0 rfl) ?_
                refine kget (ci := 7) S hK hP rfl inX7_plan_X7 0 rfl 34 (by decide) lkX7_plan_73 rfl dX7_plan_161 ?_
                refine lv_iload hx hb dX7_plan_164 (lv_at hl 7 rfl) ?_
                refine lv_iconst (v := (0 : Int32)) hx hb dX7_plan_166 (by decide) ?_
                obtain ⟨_, hg, hsh⟩ := bd hsh
                refine kias S hK hP hD hS 13 0 rfl rfl (gd_in hg) (ws' := (wdX7_plan cI cJ cZ q_this q_tape q_prior q_pipesIn q_pipe q_met q_chance q_rock q_people q_bad q_well q_ends q_runs q_way q_words q_told q_weight q_days q_depth q_bestDepth q_hopes q_planOf q_planDepth v_tapeSize v_thrown_j_110 v_salt v_dry v_rest v_fault v_faultPlace v_rocks v_villages v_day v_at v_allPipes v_end v_next v_kind v_which v_place v_isPlan v_planMany v_planPipes v_planDays w_prior w_pipesIn w_pipe w_met w_chance w_rock w_people w_bad w_well w_way w_weight_j_110 w_days_j_110 (upd w_depth_135 (x9_135).toNatClampNeg (0 : Int32)) w_bestDepth_124 w_hopes_j_110 w_planOf w_planDepth)) rfl dX7_plan_167 (fun H locs hP hD hS => ?_)
                refine lv_iinc (v := (x9_135 + (-1 : Int32))) (lv' := [(9, .int (x9_135 + (-1 : Int32))), (0, .ref q_this), (1, .int a1), (2, .int a2), (3, .long x3_124), (5, .int x5_124), (6, .int x6_124), (7, .int x7_124)]) hx hb dX7_plan_168 hl (k := 7) rfl (congrArg (fun z : Int32 => x9_135 + z) (by decide)) (by decide) rfl (fun ls hl => ?_)
                refine lv_goto (tgt := 135) hx hb dX7_plan_171 (by decide) ?_
                exact ih_135 (x9_135 + (-1 : Int32)) (upd w_depth_135 (x9_135).toNatClampNeg (0 : Int32)) H locs hP hD hS ls (lv_sub hl [1, 2, 3, 4, 5, 6, 7, 0] rfl) (hB1_135 _ hsh)
              refine lv_iload hx hb dX7_plan_135 (lv_at hl 7 rfl) ?_
              refine lv_if_le (tgt := 174) hx hb dX7_plan_137 (by decide) (fun c1 => ?_) (fun c1 => ?_)
              · skip
                have hsh := ite_t hsh c1
                have he := hB2_135 _ hsh
                rw [← he] at hk_135
                exact Jk124_174 x9_135 w_depth_135 H locs hP hD hS ls (lv_sub hl [0, 1, 2, 3, 4, 5, 6, 7] rfl) hk_135
              · skip
                have hsh := ite_f hsh c1
                refine lv_aload_n hx hb dX7_plan_140 rfl (lv_at hl 0 rfl) ?_
                refine kget (ci := 7) S hK hP rfl inX7_plan_X7 0 rfl 34 (by decide) lkX7_plan_73 rfl dX7_plan_141 ?_
                refine lv_iload hx hb dX7_plan_144 (lv_at hl 7 rfl) ?_
                obtain ⟨_, hg, hsh⟩ := bd hsh
                refine kial S hK hP 13 0 rfl rfl (gd_in hg) dX7_plan_146 ?_
                refine lv_iconst (v := (4 : Int32)) hx hb dX7_plan_147 (by decide) ?_
                refine lv_icmp_eq (tgt := 160) hx hb dX7_plan_148 (by decide) (fun c1 => ?_) (fun c1 => ?_)
                · skip
                  have hsh := ite_t hsh c1
                  exact Jk135_160  H locs hP hD hS ls (lv_sub hl [0, 1, 2, 3, 4, 5, 6, 7] rfl) hsh
                · skip
                  have hsh := ite_f hsh c1
                  refine lv_aload_n hx hb dX7_plan_151 rfl (lv_at hl 0 rfl) ?_
                  refine lv_iload hx hb dX7_plan_152 (lv_at hl 7 rfl) ?_
                  obtain ⟨o_154, he, hsh⟩ := bd hsh
                  refine kVi (ci := 7) S hK hA (ctX7_isWanted l D cI cJ cZ q_this q_tape q_prior q_pipesIn q_pipe q_met q_chance q_rock q_people q_bad q_well q_ends q_runs q_way q_words q_told q_weight q_days q_depth q_bestDepth q_hopes q_planOf q_planDepth v_tapeSize v_thrown_j_110 v_salt v_dry v_rest v_fault v_faultPlace v_rocks v_villages v_day v_at v_allPipes v_end v_next v_kind v_which v_place v_isPlan v_planMany v_planPipes v_planDays w_bad w_well x9_135 o_154 he) noE_cl (cwV 1 hts gX7_plan_X7_isWanted rfl rfl rfl hdX7_isWanted ⟨Nat.le_of_ble_eq_true rfl, Nat.le_of_ble_eq_true rfl⟩) rfl 0 rfl [0, 8, 9] [1, 2, 3, 4, 5, 6, 7, 10, 11, 12, 13, 14, 15, 16, 17] [15, 0, 1, 2, 3, 4, 5, 6, 16, 17, 7, 8, 9, 10, 11, 12, 13, 14] (ws' := (wdX7_plan cI cJ cZ q_this q_tape q_prior q_pipesIn q_pipe q_met q_chance q_rock q_people q_bad q_well q_ends q_runs q_way q_words q_told q_weight q_days q_depth q_bestDepth q_hopes q_planOf q_planDepth v_tapeSize v_thrown_j_110 v_salt v_dry v_rest v_fault v_faultPlace v_rocks v_villages v_day v_at v_allPipes v_end v_next v_kind v_which v_place v_isPlan v_planMany v_planPipes v_planDays w_prior w_pipesIn w_pipe w_met w_chance w_rock w_people w_bad w_well w_way w_weight_j_110 w_days_j_110 w_depth_135 w_bestDepth_124 w_hopes_j_110 w_planOf w_planDepth)) ⟨rfl, rfl, rfl, rfl, rfl, rfl, rfl⟩ trivial rfl hl.1 rfl (Nat.le_of_ble_eq_true rfl) dX7_plan_154 hP hD hS (fun H locs hP hD hS => ?_)
                  refine lv_if_ne (tgt := 174) hx hb dX7_plan_157 (by decide) (fun c1 => ?_) (fun c1 => ?_)
                  · skip
                    have hsh := ite_t hsh c1
                    have he := hB2_135 _ hsh
                    rw [← he] at hk_135
                    exact Jk124_174 x9_135 w_depth_135 H locs hP hD hS ls (lv_sub hl [0, 1, 2, 3, 4, 5, 6, 7] rfl) hk_135
                  · skip
                    have hsh := ite_f hsh (fun h => h c1)
                    exact Jk135_160  H locs hP hD hS ls (lv_sub hl [0, 1, 2, 3, 4, 5, 6, 7] rfl) hsh
          exact L_135 n_135 v_villages w_depth_124 H locs hP hD hS ls (lv_sub hl [1, 2, 3, 4, 5, 6, 7, 0] rfl) hn_135
    exact L_124 n_124 (0 : Int64) (0 : Int32) (0 : Int32) (0 : Int32) (1 : Int32) w_depth_j_110 w_bestDepth_j_110 H locs hP hD hS ls (lv_sub hl [5, 6, 7, 4, 3, 2, 1, 0] rfl) hn_124
  have Jj_82 : ∀ (v_thrown_j_82 : Int32) (w_weight_j_82 : Nat → Int64) (w_days_j_82 : Nat → Int32) (w_hopes_j_82 : Nat → Int32) (H : Heap) (locs : List Loc), va_P D vwCl (wdX7_plan cI cJ cZ q_this q_tape q_prior q_pipesIn q_pipe q_met q_chance q_rock q_people q_bad q_well q_ends q_runs q_way q_words q_told q_weight q_days q_depth q_bestDepth q_hopes q_planOf q_planDepth v_tapeSize v_thrown_j_82 v_salt v_dry v_rest v_fault v_faultPlace v_rocks v_villages v_day v_at v_allPipes v_end v_next v_kind v_which v_place v_isPlan v_planMany v_planPipes v_planDays w_prior w_pipesIn w_pipe w_met w_chance w_rock w_people w_bad w_well w_way w_weight_j_82 w_days_j_82 w_depth w_bestDepth w_hopes_j_82 w_planOf w_planDepth) H → va_D A (wdX7_plan cI cJ cZ q_this q_tape q_prior q_pipesIn q_pipe q_met q_chance q_rock q_people q_bad q_well q_ends q_runs q_way q_words q_told q_weight q_days q_depth q_bestDepth q_hopes q_planOf q_planDepth v_tapeSize v_thrown_j_82 v_salt v_dry v_rest v_fault v_faultPlace v_rocks v_villages v_day v_at v_allPipes v_end v_next v_kind v_which v_place v_isPlan v_planMany v_planPipes v_planDays w_prior w_pipesIn w_pipe w_met w_chance w_rock w_people w_bad w_well w_way w_weight_j_82 w_days_j_82 w_depth w_bestDepth w_hopes_j_82 w_planOf w_planDepth) → va_S A s.heap H locs → ∀ ls : Array Slot, lv_has ls 18 [(0, .ref q_this), (1, .int a1), (2, .int a2)] → shX7_plan_j_82 a1 a2 v_dry v_rest v_villages v_at w_people w_bad w_well w_way w_depth w_bestDepth w_planOf w_planDepth v_thrown_j_82 w_weight_j_82 w_days_j_82 w_hopes_j_82 = some o → W p l e rmX7_plan s m args below meth c H locs 0 0 Q (F0 m 82 ls []) := by
    intro v_thrown_j_82 w_weight_j_82 w_days_j_82 w_hopes_j_82 H locs hP hD hS ls hl hsh
    unfold shX7_plan_j_82 at hsh
    refine lv_iconst (v := (0 : Int32)) hx hb dX7_plan_82 (by decide) ?_
    refine lv_istore_n (lv' := [(3, .int (0 : Int32)), (0, .ref q_this), (1, .int a1), (2, .int a2)]) hx hb dX7_plan_83 rfl hl (by decide) rfl (fun ls hl => ?_)
    obtain ⟨r_84, hl_84, hk_84⟩ := bd hsh
    obtain ⟨n_84, hn_84⟩ := lp_iff.mp hl_84
    have L_84 : ∀ (n : Nat) (x3_84 : Int32) (w_depth_84 : Nat → Int32) (w_bestDepth_84 : Nat → Int32) (H : Heap) (locs : List Loc), va_P D vwCl (wdX7_plan cI cJ cZ q_this q_tape q_prior q_pipesIn q_pipe q_met q_chance q_rock q_people q_bad q_well q_ends q_runs q_way q_words q_told q_weight q_days q_depth q_bestDepth q_hopes q_planOf q_planDepth v_tapeSize v_thrown_j_82 v_salt v_dry v_rest v_fault v_faultPlace v_rocks v_villages v_day v_at v_allPipes v_end v_next v_kind v_which v_place v_isPlan v_planMany v_planPipes v_planDays w_prior w_pipesIn w_pipe w_met w_chance w_rock w_people w_bad w_well w_way w_weight_j_82 w_days_j_82 w_depth_84 w_bestDepth_84 w_hopes_j_82 w_planOf w_planDepth) H → va_D A (wdX7_plan cI cJ cZ q_this q_tape q_prior q_pipesIn q_pipe q_met q_chance q_rock q_people q_bad q_well q_ends q_runs q_way q_words q_told q_weight q_days q_depth q_bestDepth q_hopes q_planOf q_planDepth v_tapeSize v_thrown_j_82 v_salt v_dry v_rest v_fault v_faultPlace v_rocks v_villages v_day v_at v_allPipes v_end v_next v_kind v_which v_place v_isPlan v_planMany v_planPipes v_planDays w_prior w_pipesIn w_pipe w_met w_chance w_rock w_people w_bad w_well w_way w_weight_j_82 w_days_j_82 w_depth_84 w_bestDepth_84 w_hopes_j_82 w_planOf w_planDepth) → va_S A s.heap H locs → ∀ ls : Array Slot, lv_has ls 18 [(0, .ref q_this), (1, .int a1), (2, .int a2), (3, .int x3_84)] → it (fun s : Int32 × (Nat → Int32) × (Nat → Int32) => shX7_plan_L84 s.1 s.2.1 s.2.2) n (x3_84, w_depth_84, w_bestDepth_84) = some r_84 → W p l e rmX7_plan s m args below meth c H locs 0 0 Q (F0 m 84 ls []) := by
      intro n
      induction n with
      | zero => exact fun _ _ _ _ _ _ _ _ _ _ hi => it_0 hi
      | succ n ih_84 =>
        intro x3_84 w_depth_84 w_bestDepth_84 H locs hP hD hS ls hl hi
        obtain ⟨b_84, hsh, hB1_84, hB2_84⟩ := it_b hi
        replace hsh : shX7_plan_L84 x3_84 w_depth_84 w_bestDepth_84 = some b_84 := hsh
        unfold shX7_plan_L84 at hsh
        refine lv_iload_n hx hb dX7_plan_84 rfl (lv_at hl 3 rfl) ?_
        refine lv_bipush (v := (8 : Int32)) hx hb dX7_plan_85 (by decide) ?_
        refine lv_icmp_ge (tgt := 110) hx hb dX7_plan_87 (by decide) (fun c1 => ?_) (fun c1 => ?_)
        · skip
          have hsh := ite_t hsh c1
          have he := hB2_84 _ hsh
          rw [← he] at hk_84
          exact Jj_110 v_thrown_j_82 w_weight_j_82 w_days_j_82 w_depth_84 w_bestDepth_84 w_hopes_j_82 H locs hP hD hS ls (lv_sub hl [0, 1, 2] rfl) hk_84
        · skip
          have hsh := ite_f hsh c1
          refine lv_aload_n hx hb dX7_plan_90 rfl (lv_at hl 0 rfl) ?_
          refine kget (ci := 7) S hK hP rfl inX7_plan_X7 0 rfl 34 (by decide) lkX7_plan_73 rfl dX7_plan_91 ?_
          refine lv_iload_n hx hb dX7_plan_94 rfl (lv_at hl 3 rfl) ?_
          refine lv_iconst (v := (0 : Int32)) hx hb dX7_plan_95 (by decide) ?_
          obtain ⟨_, hg, hsh⟩ := bd hsh
          refine kias S hK hP hD hS 13 0 rfl rfl (gd_in hg) (ws' := (wdX7_plan cI cJ cZ q_this q_tape q_prior q_pipesIn q_pipe q_met q_chance q_rock q_people q_bad q_well q_ends q_runs q_way q_words q_told q_weight q_days q_depth q_bestDepth q_hopes q_planOf q_planDepth v_tapeSize v_thrown_j_82 v_salt v_dry v_rest v_fault v_faultPlace v_rocks v_villages v_day v_at v_allPipes v_end v_next v_kind v_which v_place v_isPlan v_planMany v_planPipes v_planDays w_prior w_pipesIn w_pipe w_met w_chance w_rock w_people w_bad w_well w_way w_weight_j_82 w_days_j_82 (upd w_depth_84 (x3_84).toNatClampNeg (0 : Int32)) w_bestDepth_84 w_hopes_j_82 w_planOf w_planDepth)) rfl dX7_plan_96 (fun H locs hP hD hS => ?_)
          refine lv_aload_n hx hb dX7_plan_97 rfl (lv_at hl 0 rfl) ?_
          refine kget (ci := 7) S hK hP rfl inX7_plan_X7 0 rfl 35 (by decide) lkX7_plan_76 rfl dX7_plan_98 ?_
          refine lv_iload_n hx hb dX7_plan_101 rfl (lv_at hl 3 rfl) ?_
          refine lv_iconst (v := (0 : Int32)) hx hb dX7_plan_102 (by decide) ?_
          obtain ⟨_, hg, hsh⟩ := bd hsh
          refine kias S hK hP hD hS 14 0 rfl rfl (gd_in hg) (ws' := (wdX7_plan cI cJ cZ q_this q_tape q_prior q_pipesIn q_pipe q_met q_chance q_rock q_people q_bad q_well q_ends q_runs q_way q_words q_told q_weight q_days q_depth q_bestDepth q_hopes q_planOf q_planDepth v_tapeSize v_thrown_j_82 v_salt v_dry v_rest v_fault v_faultPlace v_rocks v_villages v_day v_at v_allPipes v_end v_next v_kind v_which v_place v_isPlan v_planMany v_planPipes v_planDays w_prior w_pipesIn w_pipe w_met w_chance w_rock w_people w_bad w_well w_way w_weight_j_82 w_days_j_82 (upd w_depth_84 (x3_84).toNatClampNeg (0 : Int32)) (upd w_bestDepth_84 (x3_84).toNatClampNeg (0 : Int32)) w_hopes_j_82 w_planOf w_planDepth)) rfl dX7_plan_103 (fun H locs hP hD hS => ?_)
          refine lv_iinc (v := (x3_84 + (1 : Int32))) (lv' := [(3, .int (x3_84 + (1 : Int32))), (0, .ref q_this), (1, .int a1), (2, .int a2)]) hx hb dX7_plan_104 hl (k := 3) rfl (congrArg (fun z : Int32 => x3_84 + z) (by decide)) (by decide) rfl (fun ls hl => ?_)
          refine lv_goto (tgt := 84) hx hb dX7_plan_107 (by decide) ?_
          exact ih_84 (x3_84 + (1 : Int32)) (upd w_depth_84 (x3_84).toNatClampNeg (0 : Int32)) (upd w_bestDepth_84 (x3_84).toNatClampNeg (0 : Int32)) H locs hP hD hS ls (lv_sub hl [1, 2, 3, 0] rfl) (hB1_84 _ hsh)
    exact L_84 n_84 (0 : Int32) w_depth w_bestDepth H locs hP hD hS ls (lv_sub hl [1, 2, 3, 0] rfl) hn_84
  refine lv_aload_n hx hb dX7_plan_0 rfl (lv_at hl 0 rfl) ?_
  refine lv_iconst (v := (0 : Int32)) hx hb dX7_plan_1 (by decide) ?_
  refine kput (ci := 7) S hK hP hD hS rfl inX7_plan_X7 tyX7_ok nmX7 0 rfl 2 (by decide) lkX7_plan_88 rfl rfl rfl (Nat.le_of_ble_eq_true rfl) (ws' := (wdX7_plan cI cJ cZ q_this q_tape q_prior q_pipesIn q_pipe q_met q_chance q_rock q_people q_bad q_well q_ends q_runs q_way q_words q_told q_weight q_days q_depth q_bestDepth q_hopes q_planOf q_planDepth v_tapeSize (0 : Int32) v_salt v_dry v_rest v_fault v_faultPlace v_rocks v_villages v_day v_at v_allPipes v_end v_next v_kind v_which v_place v_isPlan v_planMany v_planPipes v_planDays w_prior w_pipesIn w_pipe w_met w_chance w_rock w_people w_bad w_well w_way w_weight w_days w_depth w_bestDepth w_hopes w_planOf w_planDepth)) rfl dX7_plan_2 (fun H locs hP hD hS => ?_)
  refine lv_iload_n hx hb dX7_plan_5 rfl (lv_at hl 1 rfl) ?_
  refine lv_if_lt (tgt := 25) hx hb dX7_plan_6 (by decide) (fun c1 => ?_) (fun c1 => ?_)
  · skip
    have hsh := ite_t hsh c1
    refine lv_ldc2 hx hb hown (v := (-1 : Int64)) (hts _ (List.mem_of_getElem? (i := 2) rfl)) dX7_plan_25 ?_
    have ho := Option.some.inj hsh
    rw [← ho] at hret
    exact hret _ _ _ _ dX7_plan_28 hP hD hS
  · skip
    have hsh := ite_f hsh c1
    refine lv_iload_n hx hb dX7_plan_9 rfl (lv_at hl 1 rfl) ?_
    refine lv_bipush (v := (28 : Int32)) hx hb dX7_plan_10 (by decide) ?_
    refine lv_icmp_gt (tgt := 25) hx hb dX7_plan_12 (by decide) (fun c1 => ?_) (fun c1 => ?_)
    · skip
      have hsh := ite_t hsh c1
      refine lv_ldc2 hx hb hown (v := (-1 : Int64)) (hts _ (List.mem_of_getElem? (i := 2) rfl)) dX7_plan_25 ?_
      have ho := Option.some.inj hsh
      rw [← ho] at hret
      exact hret _ _ _ _ dX7_plan_28 hP hD hS
    · skip
      have hsh := ite_f hsh c1
      refine lv_iload_n hx hb dX7_plan_15 rfl (lv_at hl 2 rfl) ?_
      refine lv_if_lt (tgt := 25) hx hb dX7_plan_16 (by decide) (fun c1 => ?_) (fun c1 => ?_)
      · skip
        have hsh := ite_t hsh c1
        refine lv_ldc2 hx hb hown (v := (-1 : Int64)) (hts _ (List.mem_of_getElem? (i := 2) rfl)) dX7_plan_25 ?_
        have ho := Option.some.inj hsh
        rw [← ho] at hret
        exact hret _ _ _ _ dX7_plan_28 hP hD hS
      · skip
        have hsh := ite_f hsh c1
        refine lv_iload_n hx hb dX7_plan_19 rfl (lv_at hl 2 rfl) ?_
        refine lv_bipush (v := (99 : Int32)) hx hb dX7_plan_20 (by decide) ?_
        refine lv_icmp_le (tgt := 29) hx hb dX7_plan_22 (by decide) (fun c1 => ?_) (fun c1 => ?_)
        · skip
          have hsh := ite_t hsh c1
          refine lv_aload_n hx hb dX7_plan_29 rfl (lv_at hl 0 rfl) ?_
          obtain ⟨o_30, he, hsh⟩ := bd hsh
          refine kVv (ci := 7) S hK hA (ctX7_ways l D cI cJ cZ q_this q_tape q_prior q_pipesIn q_pipe q_met q_chance q_rock q_people q_bad q_well q_ends q_runs q_way q_words q_told q_weight q_days q_depth q_bestDepth q_hopes q_planOf q_planDepth v_tapeSize (0 : Int32) v_salt v_dry v_rest v_fault v_faultPlace v_rocks v_villages v_day v_at v_allPipes v_end v_next v_kind v_which v_place v_isPlan v_planMany v_planPipes v_planDays w_way w_days o_30 he) noE_cl (cwV 0 hts gX7_plan_X7_ways rfl rfl rfl hdX7_ways ⟨Nat.le_of_ble_eq_true rfl, Nat.le_of_ble_eq_true rfl⟩) rfl 0 rfl [0, 10, 12] [1, 2, 3, 4, 5, 6, 7, 8, 9, 11, 13, 14, 15, 16, 17] [15, 0, 1, 2, 3, 4, 5, 6, 7, 8, 16, 9, 17, 10, 11, 12, 13, 14] (ws' := (wdX7_plan cI cJ cZ q_this q_tape q_prior q_pipesIn q_pipe q_met q_chance q_rock q_people q_bad q_well q_ends q_runs q_way q_words q_told q_weight q_days q_depth q_bestDepth q_hopes q_planOf q_planDepth v_tapeSize (0 : Int32) v_salt v_dry v_rest v_fault v_faultPlace v_rocks v_villages v_day v_at v_allPipes v_end v_next v_kind v_which v_place v_isPlan v_planMany v_planPipes v_planDays w_prior w_pipesIn w_pipe w_met w_chance w_rock w_people w_bad w_well w_way w_weight o_30 w_depth w_bestDepth w_hopes w_planOf w_planDepth)) ⟨rfl, rfl, rfl, rfl, rfl, rfl, rfl⟩ trivial rfl hl.1 rfl (Nat.le_of_ble_eq_true rfl) dX7_plan_30 hP hD hS (fun H locs hP hD hS => ?_)
          refine lv_iconst (v := (1 : Int32)) hx hb dX7_plan_33 (by decide) ?_
          refine lv_istore_n (lv' := [(3, .int (1 : Int32)), (0, .ref q_this), (1, .int a1), (2, .int a2)]) hx hb dX7_plan_34 rfl hl (by decide) rfl (fun ls hl => ?_)
          obtain ⟨r_35, hl_35, hk_35⟩ := bd hsh
          obtain ⟨n_35, hn_35⟩ := lp_iff.mp hl_35
          have L_35 : ∀ (n : Nat) (x3_35 : Int32) (w_weight_35 : Nat → Int64) (w_hopes_35 : Nat → Int32) (H : Heap) (locs : List Loc), va_P D vwCl (wdX7_plan cI cJ cZ q_this q_tape q_prior q_pipesIn q_pipe q_met q_chance q_rock q_people q_bad q_well q_ends q_runs q_way q_words q_told q_weight q_days q_depth q_bestDepth q_hopes q_planOf q_planDepth v_tapeSize (0 : Int32) v_salt v_dry v_rest v_fault v_faultPlace v_rocks v_villages v_day v_at v_allPipes v_end v_next v_kind v_which v_place v_isPlan v_planMany v_planPipes v_planDays w_prior w_pipesIn w_pipe w_met w_chance w_rock w_people w_bad w_well w_way w_weight_35 o_30 w_depth w_bestDepth w_hopes_35 w_planOf w_planDepth) H → va_D A (wdX7_plan cI cJ cZ q_this q_tape q_prior q_pipesIn q_pipe q_met q_chance q_rock q_people q_bad q_well q_ends q_runs q_way q_words q_told q_weight q_days q_depth q_bestDepth q_hopes q_planOf q_planDepth v_tapeSize (0 : Int32) v_salt v_dry v_rest v_fault v_faultPlace v_rocks v_villages v_day v_at v_allPipes v_end v_next v_kind v_which v_place v_isPlan v_planMany v_planPipes v_planDays w_prior w_pipesIn w_pipe w_met w_chance w_rock w_people w_bad w_well w_way w_weight_35 o_30 w_depth w_bestDepth w_hopes_35 w_planOf w_planDepth) → va_S A s.heap H locs → ∀ ls : Array Slot, lv_has ls 18 [(0, .ref q_this), (1, .int a1), (2, .int a2), (3, .int x3_35)] → it (fun s : Int32 × (Nat → Int64) × (Nat → Int32) => shX7_plan_L35 v_villages w_prior w_pipesIn w_pipe w_met w_chance w_rock s.1 s.2.1 s.2.2) n (x3_35, w_weight_35, w_hopes_35) = some r_35 → W p l e rmX7_plan s m args below meth c H locs 0 0 Q (F0 m 35 ls []) := by
            intro n
            induction n with
            | zero => exact fun _ _ _ _ _ _ _ _ _ _ hi => it_0 hi
            | succ n ih_35 =>
              intro x3_35 w_weight_35 w_hopes_35 H locs hP hD hS ls hl hi
              obtain ⟨b_35, hsh, hB1_35, hB2_35⟩ := it_b hi
              replace hsh : shX7_plan_L35 v_villages w_prior w_pipesIn w_pipe w_met w_chance w_rock x3_35 w_weight_35 w_hopes_35 = some b_35 := hsh
              unfold shX7_plan_L35 at hsh
              have Jk35_76 : ∀ (w_weight_k35_76 : Nat → Int64) (w_hopes_k35_76 : Nat → Int32) (H : Heap) (locs : List Loc), va_P D vwCl (wdX7_plan cI cJ cZ q_this q_tape q_prior q_pipesIn q_pipe q_met q_chance q_rock q_people q_bad q_well q_ends q_runs q_way q_words q_told q_weight q_days q_depth q_bestDepth q_hopes q_planOf q_planDepth v_tapeSize (0 : Int32) v_salt v_dry v_rest v_fault v_faultPlace v_rocks v_villages v_day v_at v_allPipes v_end v_next v_kind v_which v_place v_isPlan v_planMany v_planPipes v_planDays w_prior w_pipesIn w_pipe w_met w_chance w_rock w_people w_bad w_well w_way w_weight_k35_76 o_30 w_depth w_bestDepth w_hopes_k35_76 w_planOf w_planDepth) H → va_D A (wdX7_plan cI cJ cZ q_this q_tape q_prior q_pipesIn q_pipe q_met q_chance q_rock q_people q_bad q_well q_ends q_runs q_way q_words q_told q_weight q_days q_depth q_bestDepth q_hopes q_planOf q_planDepth v_tapeSize (0 : Int32) v_salt v_dry v_rest v_fault v_faultPlace v_rocks v_villages v_day v_at v_allPipes v_end v_next v_kind v_which v_place v_isPlan v_planMany v_planPipes v_planDays w_prior w_pipesIn w_pipe w_met w_chance w_rock w_people w_bad w_well w_way w_weight_k35_76 o_30 w_depth w_bestDepth w_hopes_k35_76 w_planOf w_planDepth) → va_S A s.heap H locs → ∀ ls : Array Slot, lv_has ls 18 [(0, .ref q_this), (1, .int a1), (2, .int a2), (3, .int x3_35)] → shX7_plan_k35_76 x3_35 w_weight_k35_76 w_hopes_k35_76 = some b_35 → W p l e rmX7_plan s m args below meth c H locs 0 0 Q (F0 m 76 ls []) := by
                intro w_weight_k35_76 w_hopes_k35_76 H locs hP hD hS ls hl hsh
                unfold shX7_plan_k35_76 at hsh
                refine lv_iinc (v := (x3_35 + (1 : Int32))) (lv' := [(3, .int (x3_35 + (1 : Int32))), (0, .ref q_this), (1, .int a1), (2, .int a2)]) hx hb dX7_plan_76 hl (k := 3) rfl (congrArg (fun z : Int32 => x3_35 + z) (by decide)) (by decide) rfl (fun ls hl => ?_)
                refine lv_goto (tgt := 35) hx hb dX7_plan_79 (by decide) ?_
                exact ih_35 (x3_35 + (1 : Int32)) w_weight_k35_76 w_hopes_k35_76 H locs hP hD hS ls (lv_sub hl [1, 2, 3, 0] rfl) (hB1_35 _ hsh)
              refine lv_iload_n hx hb dX7_plan_35 rfl (lv_at hl 3 rfl) ?_
              refine lv_aload_n hx hb dX7_plan_36 rfl (lv_at hl 0 rfl) ?_
              refine kget (ci := 7) S hK hP rfl inX7_plan_X7 0 rfl 14 (by decide) lkX7_plan_143 rfl dX7_plan_37 ?_
              refine lv_icmp_gt (tgt := 82) hx hb dX7_plan_40 (by decide) (fun c1 => ?_) (fun c1 => ?_)
              · skip
                have hsh := ite_t hsh c1
                have he := hB2_35 _ hsh
                rw [← he] at hk_35
                exact Jj_82 (0 : Int32) w_weight_35 o_30 w_hopes_35 H locs hP hD hS ls (lv_sub hl [0, 1, 2] rfl) hk_35
              · skip
                have hsh := ite_f hsh c1
                refine lv_iconst (v := (0 : Int32)) hx hb dX7_plan_43 (by decide) ?_
                refine lv_istore (lv' := [(4, .int (0 : Int32)), (0, .ref q_this), (1, .int a1), (2, .int a2), (3, .int x3_35)]) hx hb dX7_plan_44 hl (by decide) rfl (fun ls hl => ?_)
                obtain ⟨r_46, hl_46, hk_46⟩ := bd hsh
                obtain ⟨n_46, hn_46⟩ := lp_iff.mp hl_46
                have L_46 : ∀ (n : Nat) (x4_46 : Int32) (w_weight_46 : Nat → Int64) (w_hopes_46 : Nat → Int32) (H : Heap) (locs : List Loc), va_P D vwCl (wdX7_plan cI cJ cZ q_this q_tape q_prior q_pipesIn q_pipe q_met q_chance q_rock q_people q_bad q_well q_ends q_runs q_way q_words q_told q_weight q_days q_depth q_bestDepth q_hopes q_planOf q_planDepth v_tapeSize (0 : Int32) v_salt v_dry v_rest v_fault v_faultPlace v_rocks v_villages v_day v_at v_allPipes v_end v_next v_kind v_which v_place v_isPlan v_planMany v_planPipes v_planDays w_prior w_pipesIn w_pipe w_met w_chance w_rock w_people w_bad w_well w_way w_weight_46 o_30 w_depth w_bestDepth w_hopes_46 w_planOf w_planDepth) H → va_D A (wdX7_plan cI cJ cZ q_this q_tape q_prior q_pipesIn q_pipe q_met q_chance q_rock q_people q_bad q_well q_ends q_runs q_way q_words q_told q_weight q_days q_depth q_bestDepth q_hopes q_planOf q_planDepth v_tapeSize (0 : Int32) v_salt v_dry v_rest v_fault v_faultPlace v_rocks v_villages v_day v_at v_allPipes v_end v_next v_kind v_which v_place v_isPlan v_planMany v_planPipes v_planDays w_prior w_pipesIn w_pipe w_met w_chance w_rock w_people w_bad w_well w_way w_weight_46 o_30 w_depth w_bestDepth w_hopes_46 w_planOf w_planDepth) → va_S A s.heap H locs → ∀ ls : Array Slot, lv_has ls 18 [(0, .ref q_this), (1, .int a1), (2, .int a2), (3, .int x3_35), (4, .int x4_46)] → it (fun s : Int32 × (Nat → Int64) × (Nat → Int32) => shX7_plan_L46 w_prior w_pipesIn w_pipe w_met w_chance w_rock x3_35 s.1 s.2.1 s.2.2) n (x4_46, w_weight_46, w_hopes_46) = some r_46 → W p l e rmX7_plan s m args below meth c H locs 0 0 Q (F0 m 46 ls []) := by
                  intro n
                  induction n with
                  | zero => exact fun _ _ _ _ _ _ _ _ _ _ hi => it_0 hi
                  | succ n ih_46 =>
                    intro x4_46 w_weight_46 w_hopes_46 H locs hP hD hS ls hl hi
                    obtain ⟨b_46, hsh, hB1_46, hB2_46⟩ := it_b hi
                    replace hsh : shX7_plan_L46 w_prior w_pipesIn w_pipe w_met w_chance w_rock x3_35 x4_46 w_weight_46 w_hopes_46 = some b_46 := hsh
                    unfold shX7_plan_L46 at hsh
                    refine lv_iload hx hb dX7_plan_46 (lv_at hl 4 rfl) ?_
                    refine lv_iconst (v := (5 : Int32)) hx hb dX7_plan_48 (by decide) ?_
                    refine lv_icmp_ge (tgt := 76) hx hb dX7_plan_49 (by decide) (fun c1 => ?_) (fun c1 => ?_)
                    · skip
                      have hsh := ite_t hsh c1
                      have he := hB2_46 _ hsh
                      rw [← he] at hk_46
                      exact Jk35_76 w_weight_46 w_hopes_46 H locs hP hD hS ls (lv_sub hl [0, 1, 2, 3] rfl) hk_46
                    · skip
                      have hsh := ite_f hsh c1
                      refine lv_aload_n hx hb dX7_plan_52 rfl (lv_at hl 0 rfl) ?_
                      refine kget (ci := 7) S hK hP rfl inX7_plan_X7 0 rfl 36 (by decide) lkX7_plan_79 rfl dX7_plan_53 ?_
                      refine lv_iconst (v := (5 : Int32)) hx hb dX7_plan_56 (by decide) ?_
                      refine lv_iload_n hx hb dX7_plan_57 rfl (lv_at hl 3 rfl) ?_
                      refine lv_imul hx hb dX7_plan_58 ?_
                      refine lv_iload hx hb dX7_plan_59 (lv_at hl 4 rfl) ?_
                      refine lv_iadd hx hb dX7_plan_61 ?_
                      refine lv_aload_n hx hb dX7_plan_62 rfl (lv_at hl 0 rfl) ?_
                      refine lv_iload_n hx hb dX7_plan_63 rfl (lv_at hl 3 rfl) ?_
                      refine lv_iload hx hb dX7_plan_64 (lv_at hl 4 rfl) ?_
                      obtain ⟨o_66, he, hsh⟩ := bd hsh
                      refine kVi (ci := 7) S hK hA (ctX7_hopeOf l D cI cJ cZ q_this q_tape q_prior q_pipesIn q_pipe q_met q_chance q_rock q_people q_bad q_well q_ends q_runs q_way q_words q_told q_weight q_days q_depth q_bestDepth q_hopes q_planOf q_planDepth v_tapeSize (0 : Int32) v_salt v_dry v_rest v_fault v_faultPlace v_rocks v_villages v_day v_at v_allPipes v_end v_next v_kind v_which v_place v_isPlan v_planMany v_planPipes v_planDays w_prior w_pipesIn w_pipe w_met w_chance w_rock w_weight_46 x3_35 x4_46 o_66 he) noE_cl (cwV 2 hts gX7_plan_X7_hopeOf rfl rfl rfl hdX7_hopeOf ⟨Nat.le_of_ble_eq_true rfl, Nat.le_of_ble_eq_true rfl⟩) rfl 0 rfl [0, 1, 2, 3, 4, 5, 6, 11] [7, 8, 9, 10, 12, 13, 14, 15, 16, 17] [10, 11, 12, 13, 14, 15, 16, 0, 1, 2, 3, 17, 4, 5, 6, 7, 8, 9] (ws' := (wdX7_plan cI cJ cZ q_this q_tape q_prior q_pipesIn q_pipe q_met q_chance q_rock q_people q_bad q_well q_ends q_runs q_way q_words q_told q_weight q_days q_depth q_bestDepth q_hopes q_planOf q_planDepth v_tapeSize (0 : Int32) v_salt v_dry v_rest v_fault v_faultPlace v_rocks v_villages v_day v_at v_allPipes v_end v_next v_kind v_which v_place v_isPlan v_planMany v_planPipes v_planDays w_prior w_pipesIn w_pipe w_met w_chance w_rock w_people w_bad w_well w_way o_66.2 o_30 w_depth w_bestDepth w_hopes_46 w_planOf w_planDepth)) ⟨rfl, rfl, rfl, rfl, rfl, rfl, rfl⟩ trivial rfl hl.1 rfl (Nat.le_of_ble_eq_true rfl) dX7_plan_66 hP hD hS (fun H locs hP hD hS => ?_)
                      obtain ⟨_, hg, hsh⟩ := bd hsh
                      refine kias S hK hP hD hS 15 0 rfl rfl (gd_in hg) (ws' := (wdX7_plan cI cJ cZ q_this q_tape q_prior q_pipesIn q_pipe q_met q_chance q_rock q_people q_bad q_well q_ends q_runs q_way q_words q_told q_weight q_days q_depth q_bestDepth q_hopes q_planOf q_planDepth v_tapeSize (0 : Int32) v_salt v_dry v_rest v_fault v_faultPlace v_rocks v_villages v_day v_at v_allPipes v_end v_next v_kind v_which v_place v_isPlan v_planMany v_planPipes v_planDays w_prior w_pipesIn w_pipe w_met w_chance w_rock w_people w_bad w_well w_way o_66.2 o_30 w_depth w_bestDepth (upd w_hopes_46 ((((5 : Int32) * x3_35) + x4_46)).toNatClampNeg o_66.1) w_planOf w_planDepth)) rfl dX7_plan_69 (fun H locs hP hD hS => ?_)
                      refine lv_iinc (v := (x4_46 + (1 : Int32))) (lv' := [(4, .int (x4_46 + (1 : Int32))), (0, .ref q_this), (1, .int a1), (2, .int a2), (3, .int x3_35)]) hx hb dX7_plan_70 hl (k := 4) rfl (congrArg (fun z : Int32 => x4_46 + z) (by decide)) (by decide) rfl (fun ls hl => ?_)
                      refine lv_goto (tgt := 46) hx hb dX7_plan_73 (by decide) ?_
                      exact ih_46 (x4_46 + (1 : Int32)) o_66.2 (upd w_hopes_46 ((((5 : Int32) * x3_35) + x4_46)).toNatClampNeg o_66.1) H locs hP hD hS ls (lv_sub hl [1, 2, 3, 4, 0] rfl) (hB1_46 _ hsh)
                exact L_46 n_46 (0 : Int32) w_weight_35 w_hopes_35 H locs hP hD hS ls (lv_sub hl [1, 2, 3, 4, 0] rfl) hn_46
          exact L_35 n_35 (1 : Int32) w_weight w_hopes H locs hP hD hS ls (lv_sub hl [1, 2, 3, 0] rfl) hn_35
        · skip
          have hsh := ite_f hsh c1
          refine lv_ldc2 hx hb hown (v := (-1 : Int64)) (hts _ (List.mem_of_getElem? (i := 2) rfl)) dX7_plan_25 ?_
          have ho := Option.some.inj hsh
          rw [← ho] at hret
          exact hret _ _ _ _ dX7_plan_28 hP hD hS

/-! DryWellsModel.planned -/
noncomputable def shX7_planned (a1 : Int32) (a2 : Int32) (v_thrown : Int32) (v_isPlan : Int32) (v_planMany : Int32) (v_planPipes : Int32) (v_planDays : Int32) (w_planOf : Nat → Int32) (w_planDepth : Nat → Int32) : Option (Int32 × Int32) :=
  (if ¬ v_isPlan = 0 then (if a1 = (0 : Int32) then (if a2 < 0 then some ((-1 : Int32), (0 : Int32)) else (if a2 < v_planMany then ((gd a2 7).bind fun _ => some ((w_planOf (a2).toNatClampNeg), (0 : Int32))) else some ((-1 : Int32), (0 : Int32)))) else (if a1 = (1 : Int32) then (if a2 < 0 then some ((-1 : Int32), (0 : Int32)) else (if a2 < v_planMany then ((gd a2 7).bind fun _ => some ((w_planDepth (a2).toNatClampNeg), (0 : Int32))) else some ((-1 : Int32), (0 : Int32)))) else (if a1 = (2 : Int32) then some (v_planPipes, (0 : Int32)) else (if a1 = (3 : Int32) then some (v_planDays, (0 : Int32)) else (if a1 = (4 : Int32) then some (v_planMany, (0 : Int32)) else some ((-1 : Int32), (0 : Int32))))))) else some ((-1 : Int32), (0 : Int32)))
def wdX7_planned (cI cJ cZ : ClassId) (q_this q_tape q_prior q_pipesIn q_pipe q_met q_chance q_rock q_people q_bad q_well q_ends q_runs q_way q_words q_told q_weight q_days q_depth q_bestDepth q_hopes q_planOf q_planDepth : Nat) (v_tapeSize : Int32) (v_thrown : Int32) (v_salt : Int32) (v_dry : Int32) (v_rest : Int32) (v_fault : Int32) (v_faultPlace : Int32) (v_rocks : Int32) (v_villages : Int32) (v_day : Int32) (v_at : Int32) (v_allPipes : Int32) (v_end : Int32) (v_next : Int32) (v_kind : Int32) (v_which : Int32) (v_place : Int32) (v_isPlan : Int32) (v_planMany : Int32) (v_planPipes : Int32) (v_planDays : Int32) (w_planOf : Nat → Int32) (w_planDepth : Nat → Int32) : va_W := [(q_this, .inr (7, [.ref q_tape, .int v_tapeSize, .int v_thrown, .int v_salt, .int v_dry, .int v_rest, .int v_fault, .int v_faultPlace, .int v_rocks, .ref q_prior, .ref q_pipesIn, .ref q_pipe, .ref q_met, .ref q_chance, .int v_villages, .ref q_rock, .ref q_people, .ref q_bad, .ref q_well, .ref q_ends, .ref q_runs, .ref q_way, .int v_day, .int v_at, .int v_allPipes, .ref q_words, .int v_end, .int v_next, .int v_kind, .int v_which, .int v_place, .ref q_told, .ref q_weight, .ref q_days, .ref q_depth, .ref q_bestDepth, .ref q_hopes, .int v_isPlan, .int v_planMany, .int v_planPipes, .int v_planDays, .ref q_planOf, .ref q_planDepth])), (q_planOf, .inl (cI, 7, .inl w_planOf)), (q_planDepth, .inl (cI, 7, .inl w_planDepth))]
abbrev rmX7_planned : Room := { frames := 0, cells := 0, slots := 0, locals := 0 }
theorem inX7_planned_X7 : ∀ w ∈ u_ws RX7 TX7 43, w ∈ wsX7_planned := fun _ h => List.mem_cons_of_mem _ (List.mem_append_right _ h)
theorem lkX7_planned_88 : Cond.fieldLink RX7 88 (TX7 2).1 (TX7 2).2.1 (TX7 2).2.2.1 ∈ wsX7_planned := List.mem_of_getElem? (i := 1) rfl
theorem lkX7_planned_191 : Cond.fieldLink RX7 191 (TX7 37).1 (TX7 37).2.1 (TX7 37).2.2.1 ∈ wsX7_planned := List.mem_of_getElem? (i := 2) rfl
theorem lkX7_planned_201 : Cond.fieldLink RX7 201 (TX7 38).1 (TX7 38).2.1 (TX7 38).2.2.1 ∈ wsX7_planned := List.mem_of_getElem? (i := 3) rfl
theorem lkX7_planned_82 : Cond.fieldLink RX7 82 (TX7 41).1 (TX7 41).2.1 (TX7 41).2.2.1 ∈ wsX7_planned := List.mem_of_getElem? (i := 4) rfl
theorem lkX7_planned_85 : Cond.fieldLink RX7 85 (TX7 42).1 (TX7 42).2.1 (TX7 42).2.2.1 ∈ wsX7_planned := List.mem_of_getElem? (i := 5) rfl
theorem lkX7_planned_195 : Cond.fieldLink RX7 195 (TX7 39).1 (TX7 39).2.1 (TX7 39).2.2.1 ∈ wsX7_planned := List.mem_of_getElem? (i := 6) rfl
theorem lkX7_planned_198 : Cond.fieldLink RX7 198 (TX7 40).1 (TX7 40).2.1 (TX7 40).2.2.1 ∈ wsX7_planned := List.mem_of_getElem? (i := 7) rfl
theorem hdX7_planned : yX7_planned.cls = RX7 ∧ yX7_planned.cls ≠ "java/lang/invoke/MethodHandle" ∧ yX7_planned.cls ≠ "java/lang/invoke/VarHandle" ∧ (parseMethodDescriptor yX7_planned.desc).map (fun d => d.parameters.length) = some 2 := by decide +kernel
set_option maxHeartbeats 4000000 in
set_option maxRecDepth 100000 in
theorem ctX7_planned (l : Launch) (D : va_G) (cI cJ cZ : ClassId) (q_this q_tape q_prior q_pipesIn q_pipe q_met q_chance q_rock q_people q_bad q_well q_ends q_runs q_way q_words q_told q_weight q_days q_depth q_bestDepth q_hopes q_planOf q_planDepth : Nat) (v_tapeSize : Int32) (v_thrown : Int32) (v_salt : Int32) (v_dry : Int32) (v_rest : Int32) (v_fault : Int32) (v_faultPlace : Int32) (v_rocks : Int32) (v_villages : Int32) (v_day : Int32) (v_at : Int32) (v_allPipes : Int32) (v_end : Int32) (v_next : Int32) (v_kind : Int32) (v_which : Int32) (v_place : Int32) (v_isPlan : Int32) (v_planMany : Int32) (v_planPipes : Int32) (v_planDays : Int32) (w_planOf : Nat → Int32) (w_planDepth : Nat → Int32) (a1 : Int32) (a2 : Int32) (o : Int32 × Int32) (hsh : shX7_planned a1 a2 v_thrown v_isPlan v_planMany v_planPipes v_planDays w_planOf w_planDepth = some o) : CtI l yX7_planned wsX7_planned rmX7_planned D (tys3 cI cJ cZ) noE (wdX7_planned cI cJ cZ q_this q_tape q_prior q_pipesIn q_pipe q_met q_chance q_rock q_people q_bad q_well q_ends q_runs q_way q_words q_told q_weight q_days q_depth q_bestDepth q_hopes q_planOf q_planDepth v_tapeSize v_thrown v_salt v_dry v_rest v_fault v_faultPlace v_rocks v_villages v_day v_at v_allPipes v_end v_next v_kind v_which v_place v_isPlan v_planMany v_planPipes v_planDays w_planOf w_planDepth) [.ref q_this, .int a1, .int a2] o.1 (wdX7_planned cI cJ cZ q_this q_tape q_prior q_pipesIn q_pipe q_met q_chance q_rock q_people q_bad q_well q_ends q_runs q_way q_words q_told q_weight q_days q_depth q_bestDepth q_hopes q_planOf q_planDepth v_tapeSize o.2 v_salt v_dry v_rest v_fault v_faultPlace v_rocks v_villages v_day v_at v_allPipes v_end v_next v_kind v_which v_place v_isPlan v_planMany v_planPipes v_planDays w_planOf w_planDepth) := by
  refine ctI plX7 rfl (Nat.le_of_ble_eq_true rfl) ?_
  intro p e s m below meth c A Q S hK hA hE hret H locs hP hD hS ls hl
  replace S : CallFix p m c cX7_planned 3 s _ wsX7_planned RX7 := S
  generalize ([.ref q_this, .int a1, .int a2] : List Value).toArray = args at S hret ⊢
  obtain ⟨hx, hb, hml, hown, hts⟩ := id S
  replace hl : lv_has ls 3 [(0, .ref q_this), (1, .int a1), (2, .int a2)] := hl
  unfold shX7_planned at hsh
  refine lv_aload_n hx hb dX7_planned_0 rfl (lv_at hl 0 rfl) ?_
  refine lv_iconst (v := (0 : Int32)) hx hb dX7_planned_1 (by decide) ?_
  refine kput (ci := 7) S hK hP hD hS rfl inX7_planned_X7 tyX7_ok nmX7 0 rfl 2 (by decide) lkX7_planned_88 rfl rfl rfl (Nat.le_of_ble_eq_true rfl) (ws' := (wdX7_planned cI cJ cZ q_this q_tape q_prior q_pipesIn q_pipe q_met q_chance q_rock q_people q_bad q_well q_ends q_runs q_way q_words q_told q_weight q_days q_depth q_bestDepth q_hopes q_planOf q_planDepth v_tapeSize (0 : Int32) v_salt v_dry v_rest v_fault v_faultPlace v_rocks v_villages v_day v_at v_allPipes v_end v_next v_kind v_which v_place v_isPlan v_planMany v_planPipes v_planDays w_planOf w_planDepth)) rfl dX7_planned_2 (fun H locs hP hD hS => ?_)
  refine lv_aload_n hx hb dX7_planned_5 rfl (lv_at hl 0 rfl) ?_
  refine kget (ci := 7) S hK hP rfl inX7_planned_X7 0 rfl 37 (by decide) lkX7_planned_191 rfl dX7_planned_6 ?_
  refine lv_if_ne (tgt := 14) hx hb dX7_planned_9 (by decide) (fun c1 => ?_) (fun c1 => ?_)
  · skip
    have hsh := ite_t hsh c1
    refine lv_iload_n hx hb dX7_planned_14 rfl (lv_at hl 1 rfl) ?_
    by_cases c_0 : a1 = (0 : Int32)
    · have hsh := ite_t hsh c_0
      refine lv_tableIn (tgt := 48) hx hb dX7_planned_15 (by rw [c_0]; decide) (by rw [c_0]; decide) (by rw [c_0]; rfl) (by decide) ?_
      refine lv_iload_n hx hb dX7_planned_48 rfl (lv_at hl 2 rfl) ?_
      refine lv_if_lt (tgt := 60) hx hb dX7_planned_49 (by decide) (fun c1 => ?_) (fun c1 => ?_)
      · skip
        have hsh := ite_t hsh c1
        refine lv_iconst (v := (-1 : Int32)) hx hb dX7_planned_60 (by decide) ?_
        refine lv_goto (tgt := 70) hx hb dX7_planned_61 (by decide) ?_
        have ho := Option.some.inj hsh
        rw [← ho] at hret
        exact hret _ _ _ _ dX7_planned_70 hP hD hS
      · skip
        have hsh := ite_f hsh c1
        refine lv_iload_n hx hb dX7_planned_52 rfl (lv_at hl 2 rfl) ?_
        refine lv_aload_n hx hb dX7_planned_53 rfl (lv_at hl 0 rfl) ?_
        refine kget (ci := 7) S hK hP rfl inX7_planned_X7 0 rfl 38 (by decide) lkX7_planned_201 rfl dX7_planned_54 ?_
        refine lv_icmp_lt (tgt := 64) hx hb dX7_planned_57 (by decide) (fun c1 => ?_) (fun c1 => ?_)
        · skip
          have hsh := ite_t hsh c1
          refine lv_aload_n hx hb dX7_planned_64 rfl (lv_at hl 0 rfl) ?_
          refine kget (ci := 7) S hK hP rfl inX7_planned_X7 0 rfl 41 (by decide) lkX7_planned_82 rfl dX7_planned_65 ?_
          refine lv_iload_n hx hb dX7_planned_68 rfl (lv_at hl 2 rfl) ?_
          obtain ⟨_, hg, hsh⟩ := bd hsh
          refine kial S hK hP 1 0 rfl rfl (gd_in hg) dX7_planned_69 ?_
          have ho := Option.some.inj hsh
          rw [← ho] at hret
          exact hret _ _ _ _ dX7_planned_70 hP hD hS
        · skip
          have hsh := ite_f hsh c1
          refine lv_iconst (v := (-1 : Int32)) hx hb dX7_planned_60 (by decide) ?_
          refine lv_goto (tgt := 70) hx hb dX7_planned_61 (by decide) ?_
          have ho := Option.some.inj hsh
          rw [← ho] at hret
          exact hret _ _ _ _ dX7_planned_70 hP hD hS
    have hsh := ite_f hsh c_0
    by_cases c_1 : a1 = (1 : Int32)
    · have hsh := ite_t hsh c_1
      refine lv_tableIn (tgt := 71) hx hb dX7_planned_15 (by rw [c_1]; decide) (by rw [c_1]; decide) (by rw [c_1]; rfl) (by decide) ?_
      refine lv_iload_n hx hb dX7_planned_71 rfl (lv_at hl 2 rfl) ?_
      refine lv_if_lt (tgt := 83) hx hb dX7_planned_72 (by decide) (fun c1 => ?_) (fun c1 => ?_)
      · skip
        have hsh := ite_t hsh c1
        refine lv_iconst (v := (-1 : Int32)) hx hb dX7_planned_83 (by decide) ?_
        refine lv_goto (tgt := 93) hx hb dX7_planned_84 (by decide) ?_
        have ho := Option.some.inj hsh
        rw [← ho] at hret
        exact hret _ _ _ _ dX7_planned_93 hP hD hS
      · skip
        have hsh := ite_f hsh c1
        refine lv_iload_n hx hb dX7_planned_75 rfl (lv_at hl 2 rfl) ?_
        refine lv_aload_n hx hb dX7_planned_76 rfl (lv_at hl 0 rfl) ?_
        refine kget (ci := 7) S hK hP rfl inX7_planned_X7 0 rfl 38 (by decide) lkX7_planned_201 rfl dX7_planned_77 ?_
        refine lv_icmp_lt (tgt := 87) hx hb dX7_planned_80 (by decide) (fun c1 => ?_) (fun c1 => ?_)
        · skip
          have hsh := ite_t hsh c1
          refine lv_aload_n hx hb dX7_planned_87 rfl (lv_at hl 0 rfl) ?_
          refine kget (ci := 7) S hK hP rfl inX7_planned_X7 0 rfl 42 (by decide) lkX7_planned_85 rfl dX7_planned_88 ?_
          refine lv_iload_n hx hb dX7_planned_91 rfl (lv_at hl 2 rfl) ?_
          obtain ⟨_, hg, hsh⟩ := bd hsh
          refine kial S hK hP 2 0 rfl rfl (gd_in hg) dX7_planned_92 ?_
          have ho := Option.some.inj hsh
          rw [← ho] at hret
          exact hret _ _ _ _ dX7_planned_93 hP hD hS
        · skip
          have hsh := ite_f hsh c1
          refine lv_iconst (v := (-1 : Int32)) hx hb dX7_planned_83 (by decide) ?_
          refine lv_goto (tgt := 93) hx hb dX7_planned_84 (by decide) ?_
          have ho := Option.some.inj hsh
          rw [← ho] at hret
          exact hret _ _ _ _ dX7_planned_93 hP hD hS
    have hsh := ite_f hsh c_1
    by_cases c_2 : a1 = (2 : Int32)
    · have hsh := ite_t hsh c_2
      refine lv_tableIn (tgt := 94) hx hb dX7_planned_15 (by rw [c_2]; decide) (by rw [c_2]; decide) (by rw [c_2]; rfl) (by decide) ?_
      refine lv_aload_n hx hb dX7_planned_94 rfl (lv_at hl 0 rfl) ?_
      refine kget (ci := 7) S hK hP rfl inX7_planned_X7 0 rfl 39 (by decide) lkX7_planned_195 rfl dX7_planned_95 ?_
      have ho := Option.some.inj hsh
      rw [← ho] at hret
      exact hret _ _ _ _ dX7_planned_98 hP hD hS
    have hsh := ite_f hsh c_2
    by_cases c_3 : a1 = (3 : Int32)
    · have hsh := ite_t hsh c_3
      refine lv_tableIn (tgt := 99) hx hb dX7_planned_15 (by rw [c_3]; decide) (by rw [c_3]; decide) (by rw [c_3]; rfl) (by decide) ?_
      refine lv_aload_n hx hb dX7_planned_99 rfl (lv_at hl 0 rfl) ?_
      refine kget (ci := 7) S hK hP rfl inX7_planned_X7 0 rfl 40 (by decide) lkX7_planned_198 rfl dX7_planned_100 ?_
      have ho := Option.some.inj hsh
      rw [← ho] at hret
      exact hret _ _ _ _ dX7_planned_103 hP hD hS
    have hsh := ite_f hsh c_3
    by_cases c_4 : a1 = (4 : Int32)
    · have hsh := ite_t hsh c_4
      refine lv_tableIn (tgt := 104) hx hb dX7_planned_15 (by rw [c_4]; decide) (by rw [c_4]; decide) (by rw [c_4]; rfl) (by decide) ?_
      refine lv_aload_n hx hb dX7_planned_104 rfl (lv_at hl 0 rfl) ?_
      refine kget (ci := 7) S hK hP rfl inX7_planned_X7 0 rfl 38 (by decide) lkX7_planned_201 rfl dX7_planned_105 ?_
      have ho := Option.some.inj hsh
      rw [← ho] at hret
      exact hret _ _ _ _ dX7_planned_108 hP hD hS
    have hsh := ite_f hsh c_4
    refine lv_tableOut (tgt := 109) hx hb dX7_planned_15 (ts_out (n := 4) (by decide) (fun k hk => by rcases (show k = 0 ∨ k = 1 ∨ k = 2 ∨ k = 3 ∨ k = 4 by omega) with rfl | rfl | rfl | rfl | rfl <;> assumption)) (by decide) ?_
    refine lv_iconst (v := (-1 : Int32)) hx hb dX7_planned_109 (by decide) ?_
    have ho := Option.some.inj hsh
    rw [← ho] at hret
    exact hret _ _ _ _ dX7_planned_110 hP hD hS
  · skip
    have hsh := ite_f hsh (fun h => h c1)
    refine lv_iconst (v := (-1 : Int32)) hx hb dX7_planned_12 (by decide) ?_
    have ho := Option.some.inj hsh
    rw [← ho] at hret
    exact hret _ _ _ _ dX7_planned_13 hP hD hS

/-! DryWellsModel.visit -/
noncomputable def shX7_visit_j_102 (w_ends : Nat → Int32) (w_runs : Nat → Int32) (s1_j_102 : Int32) (s2_j_102 : Int32) (v_thrown_j_102 : Int32) : Option (Int32 × Int32 × (Nat → Int32) × (Nat → Int32)) :=
  ((gd s1_j_102 8).bind fun _ => some ((1 : Int32), v_thrown_j_102, (upd w_ends (s1_j_102).toNatClampNeg s2_j_102), w_runs))
noncomputable def shX7_visit_j_92 (a2 : Int32) (w_ends : Nat → Int32) (w_runs : Nat → Int32) (s1_j_92 : Int32) (v_thrown_j_92 : Int32) : Option (Int32 × Int32 × (Nat → Int32) × (Nat → Int32)) :=
  (shX7_visit_j_102 w_ends w_runs s1_j_92 a2 v_thrown_j_92)
noncomputable def shX7_visit_j_64 (w_ends : Nat → Int32) (w_runs : Nat → Int32) (s1_j_64 : Int32) (s2_j_64 : Int32) (v_thrown_j_64 : Int32) : Option (Int32 × Int32 × (Nat → Int32) × (Nat → Int32)) :=
  ((gd s1_j_64 8).bind fun _ => some ((1 : Int32), v_thrown_j_64, w_ends, (upd w_runs (s1_j_64).toNatClampNeg s2_j_64)))
noncomputable def shX7_visit (a1 : Int32) (a2 : Int32) (a3 : Int32) (v_thrown : Int32) (v_villages : Int32) (w_well : Nat → Int32) (w_ends : Nat → Int32) (w_runs : Nat → Int32) : Option (Int32 × Int32 × (Nat → Int32) × (Nat → Int32)) :=
  ((shX7_isVillage a1 v_villages).bind fun o_7 => (if o_7 = 0 then some ((0 : Int32), (0 : Int32), w_ends, w_runs) else ((gd a1 8).bind fun _ => (if (w_well (a1).toNatClampNeg) = 0 then some ((0 : Int32), (0 : Int32), w_ends, w_runs) else (if a2 < (1 : Int32) then some ((0 : Int32), (0 : Int32), w_ends, w_runs) else (if a2 ≤ (30 : Int32) then (if a3 = 0 then ((gd a1 8).bind fun _ => (if (w_ends (a1).toNatClampNeg) < 0 then (shX7_visit_j_92 a2 w_ends w_runs a1 (0 : Int32)) else ((gd a1 8).bind fun _ => (if (w_ends (a1).toNatClampNeg) ≤ a2 then ((gd a1 8).bind fun _ => (shX7_visit_j_102 w_ends w_runs a1 (w_ends (a1).toNatClampNeg) (0 : Int32))) else (shX7_visit_j_92 a2 w_ends w_runs a1 (0 : Int32)))))) else ((gd a1 8).bind fun _ => (if a2 ≤ (w_runs (a1).toNatClampNeg) then ((gd a1 8).bind fun _ => (shX7_visit_j_64 w_ends w_runs a1 (w_runs (a1).toNatClampNeg) (0 : Int32))) else (shX7_visit_j_64 w_ends w_runs a1 a2 (0 : Int32))))) else some ((0 : Int32), (0 : Int32), w_ends, w_runs)))))))
def wdX7_visit (cI cJ cZ : ClassId) (q_this q_tape q_prior q_pipesIn q_pipe q_met q_chance q_rock q_people q_bad q_well q_ends q_runs q_way q_words q_told q_weight q_days q_depth q_bestDepth q_hopes q_planOf q_planDepth : Nat) (v_tapeSize : Int32) (v_thrown : Int32) (v_salt : Int32) (v_dry : Int32) (v_rest : Int32) (v_fault : Int32) (v_faultPlace : Int32) (v_rocks : Int32) (v_villages : Int32) (v_day : Int32) (v_at : Int32) (v_allPipes : Int32) (v_end : Int32) (v_next : Int32) (v_kind : Int32) (v_which : Int32) (v_place : Int32) (v_isPlan : Int32) (v_planMany : Int32) (v_planPipes : Int32) (v_planDays : Int32) (w_well : Nat → Int32) (w_ends : Nat → Int32) (w_runs : Nat → Int32) : va_W := [(q_this, .inr (7, [.ref q_tape, .int v_tapeSize, .int v_thrown, .int v_salt, .int v_dry, .int v_rest, .int v_fault, .int v_faultPlace, .int v_rocks, .ref q_prior, .ref q_pipesIn, .ref q_pipe, .ref q_met, .ref q_chance, .int v_villages, .ref q_rock, .ref q_people, .ref q_bad, .ref q_well, .ref q_ends, .ref q_runs, .ref q_way, .int v_day, .int v_at, .int v_allPipes, .ref q_words, .int v_end, .int v_next, .int v_kind, .int v_which, .int v_place, .ref q_told, .ref q_weight, .ref q_days, .ref q_depth, .ref q_bestDepth, .ref q_hopes, .int v_isPlan, .int v_planMany, .int v_planPipes, .int v_planDays, .ref q_planOf, .ref q_planDepth])), (q_well, .inl (cI, 8, .inl w_well)), (q_ends, .inl (cI, 8, .inl w_ends)), (q_runs, .inl (cI, 8, .inl w_runs))]
abbrev rmX7_visit : Room := { frames := 1, cells := 0, slots := 0, locals := 21 }
theorem inX7_visit_X7 : ∀ w ∈ u_ws RX7 TX7 43, w ∈ wsX7_visit := fun _ h => List.mem_cons_of_mem _ (List.mem_append_right _ h)
theorem lkX7_visit_88 : Cond.fieldLink RX7 88 (TX7 2).1 (TX7 2).2.1 (TX7 2).2.2.1 ∈ wsX7_visit := List.mem_of_getElem? (i := 1) rfl
theorem lkX7_visit_48 : Cond.fieldLink RX7 48 (TX7 18).1 (TX7 18).2.1 (TX7 18).2.2.1 ∈ wsX7_visit := List.mem_of_getElem? (i := 2) rfl
theorem lkX7_visit_51 : Cond.fieldLink RX7 51 (TX7 19).1 (TX7 19).2.1 (TX7 19).2.2.1 ∈ wsX7_visit := List.mem_of_getElem? (i := 4) rfl
theorem lkX7_visit_54 : Cond.fieldLink RX7 54 (TX7 20).1 (TX7 20).2.1 (TX7 20).2.2.1 ∈ wsX7_visit := List.mem_of_getElem? (i := 3) rfl
theorem hdX7_visit : yX7_visit.cls = RX7 ∧ yX7_visit.cls ≠ "java/lang/invoke/MethodHandle" ∧ yX7_visit.cls ≠ "java/lang/invoke/VarHandle" ∧ (parseMethodDescriptor yX7_visit.desc).map (fun d => d.parameters.length) = some 3 := by decide +kernel
set_option maxHeartbeats 4000000 in
set_option maxRecDepth 100000 in
theorem ctX7_visit (l : Launch) (D : va_G) (cI cJ cZ : ClassId) (q_this q_tape q_prior q_pipesIn q_pipe q_met q_chance q_rock q_people q_bad q_well q_ends q_runs q_way q_words q_told q_weight q_days q_depth q_bestDepth q_hopes q_planOf q_planDepth : Nat) (v_tapeSize : Int32) (v_thrown : Int32) (v_salt : Int32) (v_dry : Int32) (v_rest : Int32) (v_fault : Int32) (v_faultPlace : Int32) (v_rocks : Int32) (v_villages : Int32) (v_day : Int32) (v_at : Int32) (v_allPipes : Int32) (v_end : Int32) (v_next : Int32) (v_kind : Int32) (v_which : Int32) (v_place : Int32) (v_isPlan : Int32) (v_planMany : Int32) (v_planPipes : Int32) (v_planDays : Int32) (w_well : Nat → Int32) (w_ends : Nat → Int32) (w_runs : Nat → Int32) (a1 : Int32) (a2 : Int32) (a3 : Int32) (o : Int32 × Int32 × (Nat → Int32) × (Nat → Int32)) (hsh : shX7_visit a1 a2 a3 v_thrown v_villages w_well w_ends w_runs = some o) : CtI l yX7_visit wsX7_visit rmX7_visit D (tys3 cI cJ cZ) noE (wdX7_visit cI cJ cZ q_this q_tape q_prior q_pipesIn q_pipe q_met q_chance q_rock q_people q_bad q_well q_ends q_runs q_way q_words q_told q_weight q_days q_depth q_bestDepth q_hopes q_planOf q_planDepth v_tapeSize v_thrown v_salt v_dry v_rest v_fault v_faultPlace v_rocks v_villages v_day v_at v_allPipes v_end v_next v_kind v_which v_place v_isPlan v_planMany v_planPipes v_planDays w_well w_ends w_runs) [.ref q_this, .int a1, .int a2, .int a3] o.1 (wdX7_visit cI cJ cZ q_this q_tape q_prior q_pipesIn q_pipe q_met q_chance q_rock q_people q_bad q_well q_ends q_runs q_way q_words q_told q_weight q_days q_depth q_bestDepth q_hopes q_planOf q_planDepth v_tapeSize o.2.1 v_salt v_dry v_rest v_fault v_faultPlace v_rocks v_villages v_day v_at v_allPipes v_end v_next v_kind v_which v_place v_isPlan v_planMany v_planPipes v_planDays w_well o.2.2.1 o.2.2.2) := by
  refine ctZ plX7 rfl (Nat.le_of_ble_eq_true rfl) ?_
  intro p e s m below meth c A Q S hK hA hE hret H locs hP hD hS ls hl
  replace S : CallFix p m c cX7_visit 4 s _ wsX7_visit RX7 := S
  generalize ([.ref q_this, .int a1, .int a2, .int a3] : List Value).toArray = args at S hret ⊢
  obtain ⟨hx, hb, hml, hown, hts⟩ := id S
  replace hl : lv_has ls 4 [(0, .ref q_this), (1, .int a1), (2, .int a2), (3, .int a3)] := hl
  unfold shX7_visit at hsh
  have Jj_102 : ∀ (s1_j_102 : Int32) (s2_j_102 : Int32) (v_thrown_j_102 : Int32) (H : Heap) (locs : List Loc), va_P D vwCl (wdX7_visit cI cJ cZ q_this q_tape q_prior q_pipesIn q_pipe q_met q_chance q_rock q_people q_bad q_well q_ends q_runs q_way q_words q_told q_weight q_days q_depth q_bestDepth q_hopes q_planOf q_planDepth v_tapeSize v_thrown_j_102 v_salt v_dry v_rest v_fault v_faultPlace v_rocks v_villages v_day v_at v_allPipes v_end v_next v_kind v_which v_place v_isPlan v_planMany v_planPipes v_planDays w_well w_ends w_runs) H → va_D A (wdX7_visit cI cJ cZ q_this q_tape q_prior q_pipesIn q_pipe q_met q_chance q_rock q_people q_bad q_well q_ends q_runs q_way q_words q_told q_weight q_days q_depth q_bestDepth q_hopes q_planOf q_planDepth v_tapeSize v_thrown_j_102 v_salt v_dry v_rest v_fault v_faultPlace v_rocks v_villages v_day v_at v_allPipes v_end v_next v_kind v_which v_place v_isPlan v_planMany v_planPipes v_planDays w_well w_ends w_runs) → va_S A s.heap H locs → ∀ ls : Array Slot, lv_has ls 4 [] → shX7_visit_j_102 w_ends w_runs s1_j_102 s2_j_102 v_thrown_j_102 = some o → W p l e rmX7_visit s m args below meth c H locs 0 0 Q (F0 m 102 ls [.int s2_j_102, .int s1_j_102, .ref q_ends]) := by
    intro s1_j_102 s2_j_102 v_thrown_j_102 H locs hP hD hS ls hl hsh
    unfold shX7_visit_j_102 at hsh
    obtain ⟨_, hg, hsh⟩ := bd hsh
    refine kias S hK hP hD hS 2 0 rfl rfl (gd_in hg) (ws' := (wdX7_visit cI cJ cZ q_this q_tape q_prior q_pipesIn q_pipe q_met q_chance q_rock q_people q_bad q_well q_ends q_runs q_way q_words q_told q_weight q_days q_depth q_bestDepth q_hopes q_planOf q_planDepth v_tapeSize v_thrown_j_102 v_salt v_dry v_rest v_fault v_faultPlace v_rocks v_villages v_day v_at v_allPipes v_end v_next v_kind v_which v_place v_isPlan v_planMany v_planPipes v_planDays w_well (upd w_ends (s1_j_102).toNatClampNeg s2_j_102) w_runs)) rfl dX7_visit_102 (fun H locs hP hD hS => ?_)
    refine lv_iconst (v := (1 : Int32)) hx hb dX7_visit_103 (by decide) ?_
    have ho := Option.some.inj hsh
    rw [← ho] at hret
    exact hret _ _ _ _ nar1 dX7_visit_104 hP hD hS
  have Jj_92 : ∀ (s1_j_92 : Int32) (v_thrown_j_92 : Int32) (H : Heap) (locs : List Loc), va_P D vwCl (wdX7_visit cI cJ cZ q_this q_tape q_prior q_pipesIn q_pipe q_met q_chance q_rock q_people q_bad q_well q_ends q_runs q_way q_words q_told q_weight q_days q_depth q_bestDepth q_hopes q_planOf q_planDepth v_tapeSize v_thrown_j_92 v_salt v_dry v_rest v_fault v_faultPlace v_rocks v_villages v_day v_at v_allPipes v_end v_next v_kind v_which v_place v_isPlan v_planMany v_planPipes v_planDays w_well w_ends w_runs) H → va_D A (wdX7_visit cI cJ cZ q_this q_tape q_prior q_pipesIn q_pipe q_met q_chance q_rock q_people q_bad q_well q_ends q_runs q_way q_words q_told q_weight q_days q_depth q_bestDepth q_hopes q_planOf q_planDepth v_tapeSize v_thrown_j_92 v_salt v_dry v_rest v_fault v_faultPlace v_rocks v_villages v_day v_at v_allPipes v_end v_next v_kind v_which v_place v_isPlan v_planMany v_planPipes v_planDays w_well w_ends w_runs) → va_S A s.heap H locs → ∀ ls : Array Slot, lv_has ls 4 [(2, .int a2)] → shX7_visit_j_92 a2 w_ends w_runs s1_j_92 v_thrown_j_92 = some o → W p l e rmX7_visit s m args below meth c H locs 0 0 Q (F0 m 92 ls [.int s1_j_92, .ref q_ends]) := by
    intro s1_j_92 v_thrown_j_92 H locs hP hD hS ls hl hsh
    unfold shX7_visit_j_92 at hsh
    refine lv_iload_n hx hb dX7_visit_92 rfl (lv_at hl 0 rfl) ?_
    refine lv_goto (tgt := 102) hx hb dX7_visit_93 (by decide) ?_
    exact Jj_102 s1_j_92 a2 v_thrown_j_92 H locs hP hD hS ls (lv_sub hl [] rfl) hsh
  have Jj_64 : ∀ (s1_j_64 : Int32) (s2_j_64 : Int32) (v_thrown_j_64 : Int32) (H : Heap) (locs : List Loc), va_P D vwCl (wdX7_visit cI cJ cZ q_this q_tape q_prior q_pipesIn q_pipe q_met q_chance q_rock q_people q_bad q_well q_ends q_runs q_way q_words q_told q_weight q_days q_depth q_bestDepth q_hopes q_planOf q_planDepth v_tapeSize v_thrown_j_64 v_salt v_dry v_rest v_fault v_faultPlace v_rocks v_villages v_day v_at v_allPipes v_end v_next v_kind v_which v_place v_isPlan v_planMany v_planPipes v_planDays w_well w_ends w_runs) H → va_D A (wdX7_visit cI cJ cZ q_this q_tape q_prior q_pipesIn q_pipe q_met q_chance q_rock q_people q_bad q_well q_ends q_runs q_way q_words q_told q_weight q_days q_depth q_bestDepth q_hopes q_planOf q_planDepth v_tapeSize v_thrown_j_64 v_salt v_dry v_rest v_fault v_faultPlace v_rocks v_villages v_day v_at v_allPipes v_end v_next v_kind v_which v_place v_isPlan v_planMany v_planPipes v_planDays w_well w_ends w_runs) → va_S A s.heap H locs → ∀ ls : Array Slot, lv_has ls 4 [] → shX7_visit_j_64 w_ends w_runs s1_j_64 s2_j_64 v_thrown_j_64 = some o → W p l e rmX7_visit s m args below meth c H locs 0 0 Q (F0 m 64 ls [.int s2_j_64, .int s1_j_64, .ref q_runs]) := by
    intro s1_j_64 s2_j_64 v_thrown_j_64 H locs hP hD hS ls hl hsh
    unfold shX7_visit_j_64 at hsh
    obtain ⟨_, hg, hsh⟩ := bd hsh
    refine kias S hK hP hD hS 3 0 rfl rfl (gd_in hg) (ws' := (wdX7_visit cI cJ cZ q_this q_tape q_prior q_pipesIn q_pipe q_met q_chance q_rock q_people q_bad q_well q_ends q_runs q_way q_words q_told q_weight q_days q_depth q_bestDepth q_hopes q_planOf q_planDepth v_tapeSize v_thrown_j_64 v_salt v_dry v_rest v_fault v_faultPlace v_rocks v_villages v_day v_at v_allPipes v_end v_next v_kind v_which v_place v_isPlan v_planMany v_planPipes v_planDays w_well w_ends (upd w_runs (s1_j_64).toNatClampNeg s2_j_64))) rfl dX7_visit_64 (fun H locs hP hD hS => ?_)
    refine lv_goto (tgt := 103) hx hb dX7_visit_65 (by decide) ?_
    refine lv_iconst (v := (1 : Int32)) hx hb dX7_visit_103 (by decide) ?_
    have ho := Option.some.inj hsh
    rw [← ho] at hret
    exact hret _ _ _ _ nar1 dX7_visit_104 hP hD hS
  refine lv_aload_n hx hb dX7_visit_0 rfl (lv_at hl 0 rfl) ?_
  refine lv_iconst (v := (0 : Int32)) hx hb dX7_visit_1 (by decide) ?_
  refine kput (ci := 7) S hK hP hD hS rfl inX7_visit_X7 tyX7_ok nmX7 0 rfl 2 (by decide) lkX7_visit_88 rfl rfl rfl (Nat.le_of_ble_eq_true rfl) (ws' := (wdX7_visit cI cJ cZ q_this q_tape q_prior q_pipesIn q_pipe q_met q_chance q_rock q_people q_bad q_well q_ends q_runs q_way q_words q_told q_weight q_days q_depth q_bestDepth q_hopes q_planOf q_planDepth v_tapeSize (0 : Int32) v_salt v_dry v_rest v_fault v_faultPlace v_rocks v_villages v_day v_at v_allPipes v_end v_next v_kind v_which v_place v_isPlan v_planMany v_planPipes v_planDays w_well w_ends w_runs)) rfl dX7_visit_2 (fun H locs hP hD hS => ?_)
  refine lv_aload_n hx hb dX7_visit_5 rfl (lv_at hl 0 rfl) ?_
  refine lv_iload_n hx hb dX7_visit_6 rfl (lv_at hl 1 rfl) ?_
  obtain ⟨o_7, he, hsh⟩ := bd hsh
  refine kVi (ci := 7) S hK hA (ctX7_isVillage l D cI cJ cZ q_this q_tape q_prior q_pipesIn q_pipe q_met q_chance q_rock q_people q_bad q_well q_ends q_runs q_way q_words q_told q_weight q_days q_depth q_bestDepth q_hopes q_planOf q_planDepth v_tapeSize (0 : Int32) v_salt v_dry v_rest v_fault v_faultPlace v_rocks v_villages v_day v_at v_allPipes v_end v_next v_kind v_which v_place v_isPlan v_planMany v_planPipes v_planDays a1 o_7 he) noE_cl (cwV 1 hts gX7_visit_X7_isVillage rfl rfl rfl hdX7_isVillage ⟨Nat.le_of_ble_eq_true rfl, Nat.le_of_ble_eq_true rfl⟩) rfl 0 rfl [0] [1, 2, 3] [3, 0, 1, 2] (ws' := (wdX7_visit cI cJ cZ q_this q_tape q_prior q_pipesIn q_pipe q_met q_chance q_rock q_people q_bad q_well q_ends q_runs q_way q_words q_told q_weight q_days q_depth q_bestDepth q_hopes q_planOf q_planDepth v_tapeSize (0 : Int32) v_salt v_dry v_rest v_fault v_faultPlace v_rocks v_villages v_day v_at v_allPipes v_end v_next v_kind v_which v_place v_isPlan v_planMany v_planPipes v_planDays w_well w_ends w_runs)) ⟨rfl, rfl, rfl, rfl, rfl, rfl, rfl⟩ trivial rfl hl.1 rfl (Nat.le_of_ble_eq_true rfl) dX7_visit_7 hP hD hS (fun H locs hP hD hS => ?_)
  refine lv_if_eq (tgt := 33) hx hb dX7_visit_10 (by decide) (fun c1 => ?_) (fun c1 => ?_)
  · skip
    have hsh := ite_t hsh c1
    refine lv_iconst (v := (0 : Int32)) hx hb dX7_visit_33 (by decide) ?_
    have ho := Option.some.inj hsh
    rw [← ho] at hret
    exact hret _ _ _ _ nar0 dX7_visit_34 hP hD hS
  · skip
    have hsh := ite_f hsh c1
    refine lv_aload_n hx hb dX7_visit_13 rfl (lv_at hl 0 rfl) ?_
    refine kget (ci := 7) S hK hP rfl inX7_visit_X7 0 rfl 18 (by decide) lkX7_visit_48 rfl dX7_visit_14 ?_
    refine lv_iload_n hx hb dX7_visit_17 rfl (lv_at hl 1 rfl) ?_
    obtain ⟨_, hg, hsh⟩ := bd hsh
    refine kial S hK hP 1 0 rfl rfl (gd_in hg) dX7_visit_18 ?_
    refine lv_if_eq (tgt := 33) hx hb dX7_visit_19 (by decide) (fun c1 => ?_) (fun c1 => ?_)
    · skip
      have hsh := ite_t hsh c1
      refine lv_iconst (v := (0 : Int32)) hx hb dX7_visit_33 (by decide) ?_
      have ho := Option.some.inj hsh
      rw [← ho] at hret
      exact hret _ _ _ _ nar0 dX7_visit_34 hP hD hS
    · skip
      have hsh := ite_f hsh c1
      refine lv_iload_n hx hb dX7_visit_22 rfl (lv_at hl 2 rfl) ?_
      refine lv_iconst (v := (1 : Int32)) hx hb dX7_visit_23 (by decide) ?_
      refine lv_icmp_lt (tgt := 33) hx hb dX7_visit_24 (by decide) (fun c1 => ?_) (fun c1 => ?_)
      · skip
        have hsh := ite_t hsh c1
        refine lv_iconst (v := (0 : Int32)) hx hb dX7_visit_33 (by decide) ?_
        have ho := Option.some.inj hsh
        rw [← ho] at hret
        exact hret _ _ _ _ nar0 dX7_visit_34 hP hD hS
      · skip
        have hsh := ite_f hsh c1
        refine lv_iload_n hx hb dX7_visit_27 rfl (lv_at hl 2 rfl) ?_
        refine lv_bipush (v := (30 : Int32)) hx hb dX7_visit_28 (by decide) ?_
        refine lv_icmp_le (tgt := 35) hx hb dX7_visit_30 (by decide) (fun c1 => ?_) (fun c1 => ?_)
        · skip
          have hsh := ite_t hsh c1
          refine lv_iload_n hx hb dX7_visit_35 rfl (lv_at hl 3 rfl) ?_
          refine lv_if_eq (tgt := 68) hx hb dX7_visit_36 (by decide) (fun c1 => ?_) (fun c1 => ?_)
          · skip
            have hsh := ite_t hsh c1
            refine lv_aload_n hx hb dX7_visit_68 rfl (lv_at hl 0 rfl) ?_
            refine kget (ci := 7) S hK hP rfl inX7_visit_X7 0 rfl 19 (by decide) lkX7_visit_51 rfl dX7_visit_69 ?_
            refine lv_iload_n hx hb dX7_visit_72 rfl (lv_at hl 1 rfl) ?_
            refine lv_aload_n hx hb dX7_visit_73 rfl (lv_at hl 0 rfl) ?_
            refine kget (ci := 7) S hK hP rfl inX7_visit_X7 0 rfl 19 (by decide) lkX7_visit_51 rfl dX7_visit_74 ?_
            refine lv_iload_n hx hb dX7_visit_77 rfl (lv_at hl 1 rfl) ?_
            obtain ⟨_, hg, hsh⟩ := bd hsh
            refine kial S hK hP 2 0 rfl rfl (gd_in hg) dX7_visit_78 ?_
            refine lv_if_lt (tgt := 92) hx hb dX7_visit_79 (by decide) (fun c1 => ?_) (fun c1 => ?_)
            · skip
              have hsh := ite_t hsh c1
              exact Jj_92 a1 (0 : Int32) H locs hP hD hS ls (lv_sub hl [2] rfl) hsh
            · skip
              have hsh := ite_f hsh c1
              refine lv_iload_n hx hb dX7_visit_82 rfl (lv_at hl 2 rfl) ?_
              refine lv_aload_n hx hb dX7_visit_83 rfl (lv_at hl 0 rfl) ?_
              refine kget (ci := 7) S hK hP rfl inX7_visit_X7 0 rfl 19 (by decide) lkX7_visit_51 rfl dX7_visit_84 ?_
              refine lv_iload_n hx hb dX7_visit_87 rfl (lv_at hl 1 rfl) ?_
              obtain ⟨_, hg, hsh⟩ := bd hsh
              refine kial S hK hP 2 0 rfl rfl (gd_in hg) dX7_visit_88 ?_
              refine lv_icmp_ge (tgt := 96) hx hb dX7_visit_89 (by decide) (fun c1 => ?_) (fun c1 => ?_)
              · skip
                have hsh := ite_t hsh c1
                refine lv_aload_n hx hb dX7_visit_96 rfl (lv_at hl 0 rfl) ?_
                refine kget (ci := 7) S hK hP rfl inX7_visit_X7 0 rfl 19 (by decide) lkX7_visit_51 rfl dX7_visit_97 ?_
                refine lv_iload_n hx hb dX7_visit_100 rfl (lv_at hl 1 rfl) ?_
                obtain ⟨_, hg, hsh⟩ := bd hsh
                refine kial S hK hP 2 0 rfl rfl (gd_in hg) dX7_visit_101 ?_
                exact Jj_102 a1 (w_ends (a1).toNatClampNeg) (0 : Int32) H locs hP hD hS ls (lv_sub hl [] rfl) hsh
              · skip
                have hsh := ite_f hsh c1
                exact Jj_92 a1 (0 : Int32) H locs hP hD hS ls (lv_sub hl [2] rfl) hsh
          · skip
            have hsh := ite_f hsh c1
            refine lv_aload_n hx hb dX7_visit_39 rfl (lv_at hl 0 rfl) ?_
            refine kget (ci := 7) S hK hP rfl inX7_visit_X7 0 rfl 20 (by decide) lkX7_visit_54 rfl dX7_visit_40 ?_
            refine lv_iload_n hx hb dX7_visit_43 rfl (lv_at hl 1 rfl) ?_
            refine lv_iload_n hx hb dX7_visit_44 rfl (lv_at hl 2 rfl) ?_
            refine lv_aload_n hx hb dX7_visit_45 rfl (lv_at hl 0 rfl) ?_
            refine kget (ci := 7) S hK hP rfl inX7_visit_X7 0 rfl 20 (by decide) lkX7_visit_54 rfl dX7_visit_46 ?_
            refine lv_iload_n hx hb dX7_visit_49 rfl (lv_at hl 1 rfl) ?_
            obtain ⟨_, hg, hsh⟩ := bd hsh
            refine kial S hK hP 3 0 rfl rfl (gd_in hg) dX7_visit_50 ?_
            refine lv_icmp_le (tgt := 58) hx hb dX7_visit_51 (by decide) (fun c1 => ?_) (fun c1 => ?_)
            · skip
              have hsh := ite_t hsh c1
              refine lv_aload_n hx hb dX7_visit_58 rfl (lv_at hl 0 rfl) ?_
              refine kget (ci := 7) S hK hP rfl inX7_visit_X7 0 rfl 20 (by decide) lkX7_visit_54 rfl dX7_visit_59 ?_
              refine lv_iload_n hx hb dX7_visit_62 rfl (lv_at hl 1 rfl) ?_
              obtain ⟨_, hg, hsh⟩ := bd hsh
              refine kial S hK hP 3 0 rfl rfl (gd_in hg) dX7_visit_63 ?_
              exact Jj_64 a1 (w_runs (a1).toNatClampNeg) (0 : Int32) H locs hP hD hS ls (lv_sub hl [] rfl) hsh
            · skip
              have hsh := ite_f hsh c1
              refine lv_iload_n hx hb dX7_visit_54 rfl (lv_at hl 2 rfl) ?_
              refine lv_goto (tgt := 64) hx hb dX7_visit_55 (by decide) ?_
              exact Jj_64 a1 a2 (0 : Int32) H locs hP hD hS ls (lv_sub hl [] rfl) hsh
        · skip
          have hsh := ite_f hsh c1
          refine lv_iconst (v := (0 : Int32)) hx hb dX7_visit_33 (by decide) ?_
          have ho := Option.some.inj hsh
          rw [← ho] at hret
          exact hret _ _ _ _ nar0 dX7_visit_34 hP hD hS

/-! DryWellsModel.still -/
noncomputable def shX7_still_j_197 (a2 : Int32) (x3_j_197 : Int64) (x5_j_197 : Int64) (v_thrown_j_197 : Int32) : Option (Int64 × Int32) :=
  (if ¬ a2 = 0 then some (x5_j_197, v_thrown_j_197) else some (x3_j_197, v_thrown_j_197))
noncomputable def shX7_still_k37_191 (x7_37 : Int32) (x3_k37_191 : Int64) (x5_k37_191 : Int64) : Option ((Int64 × Int64 × Int32) ⊕ ((Int64 × Int64))) :=
  some (Sum.inl (x3_k37_191, x5_k37_191, (x7_37 + (1 : Int32))))
noncomputable def shX7_still_k37_146 (x3_37 : Int64) (x5_37 : Int64) (x7_37 : Int32) (x8_k37_146 : Int32) (x9_k37_146 : Int32) : Option ((Int64 × Int64 × Int32) ⊕ ((Int64 × Int64))) :=
  (if ¬ x9_k37_146 = 0 then ((shX7_divisor (x3_37 * ((x8_k37_146 - x9_k37_146)).toInt64) (x5_37 * (x8_k37_146).toInt64)).bind fun o_174 => ((gq o_174).bind fun _ => ((gq o_174).bind fun _ => (shX7_still_k37_191 x7_37 ((x3_37 * ((x8_k37_146 - x9_k37_146)).toInt64) / o_174) ((x5_37 * (x8_k37_146).toInt64) / o_174))))) else (shX7_still_k37_191 x7_37 x3_37 x5_37))
noncomputable def shX7_still_k52_140 (x10_52 : Int32) (x8_k52_140 : Int32) (x9_k52_140 : Int32) : Option ((Int32 × Int32 × Int32) ⊕ ((Int32 × Int32))) :=
  some (Sum.inl (x8_k52_140, x9_k52_140, (x10_52 + (1 : Int32))))
noncomputable def shX7_still_k52_137 (x10_52 : Int32) (s0_k52_137 : Int32) (s1_k52_137 : Int32) (x8_k52_137 : Int32) : Option ((Int32 × Int32 × Int32) ⊕ ((Int32 × Int32))) :=
  (shX7_still_k52_140 x10_52 x8_k52_137 (s0_k52_137 + s1_k52_137))
noncomputable def shX7_still_k52_115 (w_ends : Nat → Int32) (x7_37 : Int32) (x9_52 : Int32) (x10_52 : Int32) (s0_k52_115 : Int32) (s1_k52_115 : Int32) : Option ((Int32 × Int32 × Int32) ⊕ ((Int32 × Int32))) :=
  ((gd x10_52 8).bind fun _ => (if ¬ (w_ends (x10_52).toNatClampNeg) = x7_37 then (shX7_still_k52_137 x10_52 x9_52 (0 : Int32) (s0_k52_115 + s1_k52_115)) else (shX7_still_k52_137 x10_52 x9_52 (1 : Int32) (s0_k52_115 + s1_k52_115))))
noncomputable def shX7_still_k52_110 (w_ends : Nat → Int32) (x7_37 : Int32) (x9_52 : Int32) (x10_52 : Int32) (s0_k52_110 : Int32) : Option ((Int32 × Int32 × Int32) ⊕ ((Int32 × Int32))) :=
  (shX7_still_k52_115 w_ends x7_37 x9_52 x10_52 s0_k52_110 (1 : Int32))
noncomputable def shX7_still_k52_114 (w_ends : Nat → Int32) (x7_37 : Int32) (x9_52 : Int32) (x10_52 : Int32) (s0_k52_114 : Int32) : Option ((Int32 × Int32 × Int32) ⊕ ((Int32 × Int32))) :=
  (shX7_still_k52_115 w_ends x7_37 x9_52 x10_52 s0_k52_114 (0 : Int32))
noncomputable def shX7_still_L52 (v_villages : Int32) (w_well : Nat → Int32) (w_ends : Nat → Int32) (w_runs : Nat → Int32) (x7_37 : Int32) (x8_52 : Int32) (x9_52 : Int32) (x10_52 : Int32) : Option ((Int32 × Int32 × Int32) ⊕ ((Int32 × Int32))) :=
  (if v_villages < x10_52 then some (Sum.inr (x8_52, x9_52)) else ((gd x10_52 8).bind fun _ => (if ¬ (w_well (x10_52).toNatClampNeg) = 0 then ((gd x10_52 8).bind fun _ => (if x7_37 ≤ (w_ends (x10_52).toNatClampNeg) then (shX7_still_k52_110 w_ends x7_37 x9_52 x10_52 x8_52) else ((gd x10_52 8).bind fun _ => (if 0 ≤ (w_ends (x10_52).toNatClampNeg) then (shX7_still_k52_114 w_ends x7_37 x9_52 x10_52 x8_52) else ((gd x10_52 8).bind fun _ => (if (w_runs (x10_52).toNatClampNeg) < x7_37 then (shX7_still_k52_114 w_ends x7_37 x9_52 x10_52 x8_52) else (shX7_still_k52_110 w_ends x7_37 x9_52 x10_52 x8_52))))))) else (shX7_still_k52_140 x10_52 x8_52 x9_52))))
noncomputable def shX7_still_L37 (a1 : Int32) (v_villages : Int32) (w_well : Nat → Int32) (w_ends : Nat → Int32) (w_runs : Nat → Int32) (x3_37 : Int64) (x5_37 : Int64) (x7_37 : Int32) : Option ((Int64 × Int64 × Int32) ⊕ ((Int64 × Int64))) :=
  (if a1 < x7_37 then some (Sum.inr (x3_37, x5_37)) else ((lp (fun s : Int32 × Int32 × Int32 => shX7_still_L52 v_villages w_well w_ends w_runs x7_37 s.1 s.2.1 s.2.2) ((0 : Int32), (0 : Int32), (1 : Int32))).bind (fun p : Int32 × Int32 => shX7_still_k37_146 x3_37 x5_37 x7_37 p.1 p.2)))
noncomputable def shX7_still (a1 : Int32) (a2 : Int32) (v_thrown : Int32) (v_villages : Int32) (w_well : Nat → Int32) (w_ends : Nat → Int32) (w_runs : Nat → Int32) : Option (Int64 × Int32) :=
  (if a1 < (1 : Int32) then some ((-1 : Int64), (0 : Int32)) else (if (30 : Int32) < a1 then some ((-1 : Int64), (0 : Int32)) else (if a2 < 0 then some ((-1 : Int64), (0 : Int32)) else (if a2 ≤ (1 : Int32) then ((lp (fun s : Int64 × Int64 × Int32 => shX7_still_L37 a1 v_villages w_well w_ends w_runs s.1 s.2.1 s.2.2) ((1 : Int64), (1 : Int64), (1 : Int32))).bind (fun p : Int64 × Int64 => shX7_still_j_197 a2 p.1 p.2 (0 : Int32))) else some ((-1 : Int64), (0 : Int32))))))
def wdX7_still (cI cJ cZ : ClassId) (q_this q_tape q_prior q_pipesIn q_pipe q_met q_chance q_rock q_people q_bad q_well q_ends q_runs q_way q_words q_told q_weight q_days q_depth q_bestDepth q_hopes q_planOf q_planDepth : Nat) (v_tapeSize : Int32) (v_thrown : Int32) (v_salt : Int32) (v_dry : Int32) (v_rest : Int32) (v_fault : Int32) (v_faultPlace : Int32) (v_rocks : Int32) (v_villages : Int32) (v_day : Int32) (v_at : Int32) (v_allPipes : Int32) (v_end : Int32) (v_next : Int32) (v_kind : Int32) (v_which : Int32) (v_place : Int32) (v_isPlan : Int32) (v_planMany : Int32) (v_planPipes : Int32) (v_planDays : Int32) (w_well : Nat → Int32) (w_ends : Nat → Int32) (w_runs : Nat → Int32) : va_W := [(q_this, .inr (7, [.ref q_tape, .int v_tapeSize, .int v_thrown, .int v_salt, .int v_dry, .int v_rest, .int v_fault, .int v_faultPlace, .int v_rocks, .ref q_prior, .ref q_pipesIn, .ref q_pipe, .ref q_met, .ref q_chance, .int v_villages, .ref q_rock, .ref q_people, .ref q_bad, .ref q_well, .ref q_ends, .ref q_runs, .ref q_way, .int v_day, .int v_at, .int v_allPipes, .ref q_words, .int v_end, .int v_next, .int v_kind, .int v_which, .int v_place, .ref q_told, .ref q_weight, .ref q_days, .ref q_depth, .ref q_bestDepth, .ref q_hopes, .int v_isPlan, .int v_planMany, .int v_planPipes, .int v_planDays, .ref q_planOf, .ref q_planDepth])), (q_well, .inl (cI, 8, .inl w_well)), (q_ends, .inl (cI, 8, .inl w_ends)), (q_runs, .inl (cI, 8, .inl w_runs))]
abbrev rmX7_still : Room := { frames := 1, cells := 0, slots := 0, locals := 29 }
theorem inX7_still_X7 : ∀ w ∈ u_ws RX7 TX7 43, w ∈ wsX7_still := fun _ h => List.mem_cons_of_mem _ (List.mem_append_right _ h)
theorem lkX7_still_88 : Cond.fieldLink RX7 88 (TX7 2).1 (TX7 2).2.1 (TX7 2).2.2.1 ∈ wsX7_still := List.mem_of_getElem? (i := 1) rfl
theorem lkX7_still_143 : Cond.fieldLink RX7 143 (TX7 14).1 (TX7 14).2.1 (TX7 14).2.2.1 ∈ wsX7_still := List.mem_of_getElem? (i := 3) rfl
theorem lkX7_still_48 : Cond.fieldLink RX7 48 (TX7 18).1 (TX7 18).2.1 (TX7 18).2.2.1 ∈ wsX7_still := List.mem_of_getElem? (i := 4) rfl
theorem lkX7_still_51 : Cond.fieldLink RX7 51 (TX7 19).1 (TX7 19).2.1 (TX7 19).2.2.1 ∈ wsX7_still := List.mem_of_getElem? (i := 5) rfl
theorem lkX7_still_54 : Cond.fieldLink RX7 54 (TX7 20).1 (TX7 20).2.1 (TX7 20).2.2.1 ∈ wsX7_still := List.mem_of_getElem? (i := 6) rfl
theorem hdX7_still : yX7_still.cls = RX7 ∧ yX7_still.cls ≠ "java/lang/invoke/MethodHandle" ∧ yX7_still.cls ≠ "java/lang/invoke/VarHandle" ∧ (parseMethodDescriptor yX7_still.desc).map (fun d => d.parameters.length) = some 2 := by decide +kernel
set_option maxHeartbeats 4000000 in
set_option maxRecDepth 100000 in
theorem ctX7_still (l : Launch) (D : va_G) (cI cJ cZ : ClassId) (q_this q_tape q_prior q_pipesIn q_pipe q_met q_chance q_rock q_people q_bad q_well q_ends q_runs q_way q_words q_told q_weight q_days q_depth q_bestDepth q_hopes q_planOf q_planDepth : Nat) (v_tapeSize : Int32) (v_thrown : Int32) (v_salt : Int32) (v_dry : Int32) (v_rest : Int32) (v_fault : Int32) (v_faultPlace : Int32) (v_rocks : Int32) (v_villages : Int32) (v_day : Int32) (v_at : Int32) (v_allPipes : Int32) (v_end : Int32) (v_next : Int32) (v_kind : Int32) (v_which : Int32) (v_place : Int32) (v_isPlan : Int32) (v_planMany : Int32) (v_planPipes : Int32) (v_planDays : Int32) (w_well : Nat → Int32) (w_ends : Nat → Int32) (w_runs : Nat → Int32) (a1 : Int32) (a2 : Int32) (o : Int64 × Int32) (hsh : shX7_still a1 a2 v_thrown v_villages w_well w_ends w_runs = some o) : CtL l yX7_still wsX7_still rmX7_still D (tys3 cI cJ cZ) noE (wdX7_still cI cJ cZ q_this q_tape q_prior q_pipesIn q_pipe q_met q_chance q_rock q_people q_bad q_well q_ends q_runs q_way q_words q_told q_weight q_days q_depth q_bestDepth q_hopes q_planOf q_planDepth v_tapeSize v_thrown v_salt v_dry v_rest v_fault v_faultPlace v_rocks v_villages v_day v_at v_allPipes v_end v_next v_kind v_which v_place v_isPlan v_planMany v_planPipes v_planDays w_well w_ends w_runs) [.ref q_this, .int a1, .int a2] o.1 (wdX7_still cI cJ cZ q_this q_tape q_prior q_pipesIn q_pipe q_met q_chance q_rock q_people q_bad q_well q_ends q_runs q_way q_words q_told q_weight q_days q_depth q_bestDepth q_hopes q_planOf q_planDepth v_tapeSize o.2 v_salt v_dry v_rest v_fault v_faultPlace v_rocks v_villages v_day v_at v_allPipes v_end v_next v_kind v_which v_place v_isPlan v_planMany v_planPipes v_planDays w_well w_ends w_runs) := by
  refine ctL plX7 rfl (Nat.le_of_ble_eq_true rfl) ?_
  intro p e s m below meth c A Q S hK hA hE hret H locs hP hD hS ls hl
  replace S : CallFix p m c cX7_still 12 s _ wsX7_still RX7 := S
  generalize ([.ref q_this, .int a1, .int a2] : List Value).toArray = args at S hret ⊢
  obtain ⟨hx, hb, hml, hown, hts⟩ := id S
  replace hl : lv_has ls 12 [(0, .ref q_this), (1, .int a1), (2, .int a2)] := hl
  unfold shX7_still at hsh
  have Jj_197 : ∀ (x3_j_197 : Int64) (x5_j_197 : Int64) (v_thrown_j_197 : Int32) (H : Heap) (locs : List Loc), va_P D vwCl (wdX7_still cI cJ cZ q_this q_tape q_prior q_pipesIn q_pipe q_met q_chance q_rock q_people q_bad q_well q_ends q_runs q_way q_words q_told q_weight q_days q_depth q_bestDepth q_hopes q_planOf q_planDepth v_tapeSize v_thrown_j_197 v_salt v_dry v_rest v_fault v_faultPlace v_rocks v_villages v_day v_at v_allPipes v_end v_next v_kind v_which v_place v_isPlan v_planMany v_planPipes v_planDays w_well w_ends w_runs) H → va_D A (wdX7_still cI cJ cZ q_this q_tape q_prior q_pipesIn q_pipe q_met q_chance q_rock q_people q_bad q_well q_ends q_runs q_way q_words q_told q_weight q_days q_depth q_bestDepth q_hopes q_planOf q_planDepth v_tapeSize v_thrown_j_197 v_salt v_dry v_rest v_fault v_faultPlace v_rocks v_villages v_day v_at v_allPipes v_end v_next v_kind v_which v_place v_isPlan v_planMany v_planPipes v_planDays w_well w_ends w_runs) → va_S A s.heap H locs → ∀ ls : Array Slot, lv_has ls 12 [(2, .int a2), (3, .long x3_j_197), (5, .long x5_j_197)] → shX7_still_j_197 a2 x3_j_197 x5_j_197 v_thrown_j_197 = some o → W p l e rmX7_still s m args below meth c H locs 0 0 Q (F0 m 197 ls []) := by
    intro x3_j_197 x5_j_197 v_thrown_j_197 H locs hP hD hS ls hl hsh
    unfold shX7_still_j_197 at hsh
    refine lv_iload_n hx hb dX7_still_197 rfl (lv_at hl 0 rfl) ?_
    refine lv_if_ne (tgt := 205) hx hb dX7_still_198 (by decide) (fun c1 => ?_) (fun c1 => ?_)
    · skip
      have hsh := ite_t hsh c1
      refine lv_lload hx hb dX7_still_205 (lv_at hl 2 rfl) ?_
      have ho := Option.some.inj hsh
      rw [← ho] at hret
      exact hret _ _ _ _ dX7_still_207 hP hD hS
    · skip
      have hsh := ite_f hsh (fun h => h c1)
      refine lv_lload_n hx hb dX7_still_201 rfl (lv_at hl 1 rfl) ?_
      refine lv_goto (tgt := 207) hx hb dX7_still_202 (by decide) ?_
      have ho := Option.some.inj hsh
      rw [← ho] at hret
      exact hret _ _ _ _ dX7_still_207 hP hD hS
  refine lv_aload_n hx hb dX7_still_0 rfl (lv_at hl 0 rfl) ?_
  refine lv_iconst (v := (0 : Int32)) hx hb dX7_still_1 (by decide) ?_
  refine kput (ci := 7) S hK hP hD hS rfl inX7_still_X7 tyX7_ok nmX7 0 rfl 2 (by decide) lkX7_still_88 rfl rfl rfl (Nat.le_of_ble_eq_true rfl) (ws' := (wdX7_still cI cJ cZ q_this q_tape q_prior q_pipesIn q_pipe q_met q_chance q_rock q_people q_bad q_well q_ends q_runs q_way q_words q_told q_weight q_days q_depth q_bestDepth q_hopes q_planOf q_planDepth v_tapeSize (0 : Int32) v_salt v_dry v_rest v_fault v_faultPlace v_rocks v_villages v_day v_at v_allPipes v_end v_next v_kind v_which v_place v_isPlan v_planMany v_planPipes v_planDays w_well w_ends w_runs)) rfl dX7_still_2 (fun H locs hP hD hS => ?_)
  refine lv_iload_n hx hb dX7_still_5 rfl (lv_at hl 1 rfl) ?_
  refine lv_iconst (v := (1 : Int32)) hx hb dX7_still_6 (by decide) ?_
  refine lv_icmp_lt (tgt := 25) hx hb dX7_still_7 (by decide) (fun c1 => ?_) (fun c1 => ?_)
  · skip
    have hsh := ite_t hsh c1
    refine lv_ldc2 hx hb hown (v := (-1 : Int64)) (hts _ (List.mem_of_getElem? (i := 2) rfl)) dX7_still_25 ?_
    have ho := Option.some.inj hsh
    rw [← ho] at hret
    exact hret _ _ _ _ dX7_still_28 hP hD hS
  · skip
    have hsh := ite_f hsh c1
    refine lv_iload_n hx hb dX7_still_10 rfl (lv_at hl 1 rfl) ?_
    refine lv_bipush (v := (30 : Int32)) hx hb dX7_still_11 (by decide) ?_
    refine lv_icmp_gt (tgt := 25) hx hb dX7_still_13 (by decide) (fun c1 => ?_) (fun c1 => ?_)
    · skip
      have hsh := ite_t hsh c1
      refine lv_ldc2 hx hb hown (v := (-1 : Int64)) (hts _ (List.mem_of_getElem? (i := 2) rfl)) dX7_still_25 ?_
      have ho := Option.some.inj hsh
      rw [← ho] at hret
      exact hret _ _ _ _ dX7_still_28 hP hD hS
    · skip
      have hsh := ite_f hsh c1
      refine lv_iload_n hx hb dX7_still_16 rfl (lv_at hl 2 rfl) ?_
      refine lv_if_lt (tgt := 25) hx hb dX7_still_17 (by decide) (fun c1 => ?_) (fun c1 => ?_)
      · skip
        have hsh := ite_t hsh c1
        refine lv_ldc2 hx hb hown (v := (-1 : Int64)) (hts _ (List.mem_of_getElem? (i := 2) rfl)) dX7_still_25 ?_
        have ho := Option.some.inj hsh
        rw [← ho] at hret
        exact hret _ _ _ _ dX7_still_28 hP hD hS
      · skip
        have hsh := ite_f hsh c1
        refine lv_iload_n hx hb dX7_still_20 rfl (lv_at hl 2 rfl) ?_
        refine lv_iconst (v := (1 : Int32)) hx hb dX7_still_21 (by decide) ?_
        refine lv_icmp_le (tgt := 29) hx hb dX7_still_22 (by decide) (fun c1 => ?_) (fun c1 => ?_)
        · skip
          have hsh := ite_t hsh c1
          refine lv_lconst (v := (1 : Int64)) hx hb dX7_still_29 (by decide) ?_
          refine lv_lstore_n (lv' := [(3, .long (1 : Int64)), (0, .ref q_this), (1, .int a1), (2, .int a2)]) hx hb dX7_still_30 rfl hl (by decide) rfl (fun ls hl => ?_)
          refine lv_lconst (v := (1 : Int64)) hx hb dX7_still_31 (by decide) ?_
          refine lv_lstore (lv' := [(5, .long (1 : Int64)), (3, .long (1 : Int64)), (0, .ref q_this), (1, .int a1), (2, .int a2)]) hx hb dX7_still_32 hl (by decide) rfl (fun ls hl => ?_)
          refine lv_iconst (v := (1 : Int32)) hx hb dX7_still_34 (by decide) ?_
          refine lv_istore (lv' := [(7, .int (1 : Int32)), (5, .long (1 : Int64)), (3, .long (1 : Int64)), (0, .ref q_this), (1, .int a1), (2, .int a2)]) hx hb dX7_still_35 hl (by decide) rfl (fun ls hl => ?_)
          obtain ⟨r_37, hl_37, hk_37⟩ := bd hsh
          obtain ⟨n_37, hn_37⟩ := lp_iff.mp hl_37
          have L_37 : ∀ (n : Nat) (x3_37 : Int64) (x5_37 : Int64) (x7_37 : Int32) (H : Heap) (locs : List Loc), va_P D vwCl (wdX7_still cI cJ cZ q_this q_tape q_prior q_pipesIn q_pipe q_met q_chance q_rock q_people q_bad q_well q_ends q_runs q_way q_words q_told q_weight q_days q_depth q_bestDepth q_hopes q_planOf q_planDepth v_tapeSize (0 : Int32) v_salt v_dry v_rest v_fault v_faultPlace v_rocks v_villages v_day v_at v_allPipes v_end v_next v_kind v_which v_place v_isPlan v_planMany v_planPipes v_planDays w_well w_ends w_runs) H → va_D A (wdX7_still cI cJ cZ q_this q_tape q_prior q_pipesIn q_pipe q_met q_chance q_rock q_people q_bad q_well q_ends q_runs q_way q_words q_told q_weight q_days q_depth q_bestDepth q_hopes q_planOf q_planDepth v_tapeSize (0 : Int32) v_salt v_dry v_rest v_fault v_faultPlace v_rocks v_villages v_day v_at v_allPipes v_end v_next v_kind v_which v_place v_isPlan v_planMany v_planPipes v_planDays w_well w_ends w_runs) → va_S A s.heap H locs → ∀ ls : Array Slot, lv_has ls 12 [(0, .ref q_this), (1, .int a1), (2, .int a2), (3, .long x3_37), (5, .long x5_37), (7, .int x7_37)] → it (fun s : Int64 × Int64 × Int32 => shX7_still_L37 a1 v_villages w_well w_ends w_runs s.1 s.2.1 s.2.2) n (x3_37, x5_37, x7_37) = some r_37 → W p l e rmX7_still s m args below meth c H locs 0 0 Q (F0 m 37 ls []) := by
            intro n
            induction n with
            | zero => exact fun _ _ _ _ _ _ _ _ _ _ hi => it_0 hi
            | succ n ih_37 =>
              intro x3_37 x5_37 x7_37 H locs hP hD hS ls hl hi
              obtain ⟨b_37, hsh, hB1_37, hB2_37⟩ := it_b hi
              replace hsh : shX7_still_L37 a1 v_villages w_well w_ends w_runs x3_37 x5_37 x7_37 = some b_37 := hsh
              unfold shX7_still_L37 at hsh
              have Jk37_191 : ∀ (x3_k37_191 : Int64) (x5_k37_191 : Int64) (H : Heap) (locs : List Loc), va_P D vwCl (wdX7_still cI cJ cZ q_this q_tape q_prior q_pipesIn q_pipe q_met q_chance q_rock q_people q_bad q_well q_ends q_runs q_way q_words q_told q_weight q_days q_depth q_bestDepth q_hopes q_planOf q_planDepth v_tapeSize (0 : Int32) v_salt v_dry v_rest v_fault v_faultPlace v_rocks v_villages v_day v_at v_allPipes v_end v_next v_kind v_which v_place v_isPlan v_planMany v_planPipes v_planDays w_well w_ends w_runs) H → va_D A (wdX7_still cI cJ cZ q_this q_tape q_prior q_pipesIn q_pipe q_met q_chance q_rock q_people q_bad q_well q_ends q_runs q_way q_words q_told q_weight q_days q_depth q_bestDepth q_hopes q_planOf q_planDepth v_tapeSize (0 : Int32) v_salt v_dry v_rest v_fault v_faultPlace v_rocks v_villages v_day v_at v_allPipes v_end v_next v_kind v_which v_place v_isPlan v_planMany v_planPipes v_planDays w_well w_ends w_runs) → va_S A s.heap H locs → ∀ ls : Array Slot, lv_has ls 12 [(0, .ref q_this), (1, .int a1), (2, .int a2), (3, .long x3_k37_191), (5, .long x5_k37_191), (7, .int x7_37)] → shX7_still_k37_191 x7_37 x3_k37_191 x5_k37_191 = some b_37 → W p l e rmX7_still s m args below meth c H locs 0 0 Q (F0 m 191 ls []) := by
                intro x3_k37_191 x5_k37_191 H locs hP hD hS ls hl hsh
                unfold shX7_still_k37_191 at hsh
                refine lv_iinc (v := (x7_37 + (1 : Int32))) (lv' := [(7, .int (x7_37 + (1 : Int32))), (0, .ref q_this), (1, .int a1), (2, .int a2), (3, .long x3_k37_191), (5, .long x5_k37_191)]) hx hb dX7_still_191 hl (k := 5) rfl (congrArg (fun z : Int32 => x7_37 + z) (by decide)) (by decide) rfl (fun ls hl => ?_)
                refine lv_goto (tgt := 37) hx hb dX7_still_194 (by decide) ?_
                exact ih_37 x3_k37_191 x5_k37_191 (x7_37 + (1 : Int32)) H locs hP hD hS ls (lv_sub hl [1, 2, 3, 4, 5, 0] rfl) (hB1_37 _ hsh)
              have Jk37_146 : ∀ (x8_k37_146 : Int32) (x9_k37_146 : Int32) (H : Heap) (locs : List Loc), va_P D vwCl (wdX7_still cI cJ cZ q_this q_tape q_prior q_pipesIn q_pipe q_met q_chance q_rock q_people q_bad q_well q_ends q_runs q_way q_words q_told q_weight q_days q_depth q_bestDepth q_hopes q_planOf q_planDepth v_tapeSize (0 : Int32) v_salt v_dry v_rest v_fault v_faultPlace v_rocks v_villages v_day v_at v_allPipes v_end v_next v_kind v_which v_place v_isPlan v_planMany v_planPipes v_planDays w_well w_ends w_runs) H → va_D A (wdX7_still cI cJ cZ q_this q_tape q_prior q_pipesIn q_pipe q_met q_chance q_rock q_people q_bad q_well q_ends q_runs q_way q_words q_told q_weight q_days q_depth q_bestDepth q_hopes q_planOf q_planDepth v_tapeSize (0 : Int32) v_salt v_dry v_rest v_fault v_faultPlace v_rocks v_villages v_day v_at v_allPipes v_end v_next v_kind v_which v_place v_isPlan v_planMany v_planPipes v_planDays w_well w_ends w_runs) → va_S A s.heap H locs → ∀ ls : Array Slot, lv_has ls 12 [(0, .ref q_this), (1, .int a1), (2, .int a2), (3, .long x3_37), (5, .long x5_37), (7, .int x7_37), (8, .int x8_k37_146), (9, .int x9_k37_146)] → shX7_still_k37_146 x3_37 x5_37 x7_37 x8_k37_146 x9_k37_146 = some b_37 → W p l e rmX7_still s m args below meth c H locs 0 0 Q (F0 m 146 ls []) := by
                intro x8_k37_146 x9_k37_146 H locs hP hD hS ls hl hsh
                unfold shX7_still_k37_146 at hsh
                refine lv_iload hx hb dX7_still_146 (lv_at hl 7 rfl) ?_
                refine lv_if_ne (tgt := 154) hx hb dX7_still_148 (by decide) (fun c1 => ?_) (fun c1 => ?_)
                · skip
                  have hsh := ite_t hsh c1
                  refine lv_lload_n hx hb dX7_still_154 rfl (lv_at hl 3 rfl) ?_
                  refine lv_iload hx hb dX7_still_155 (lv_at hl 6 rfl) ?_
                  refine lv_iload hx hb dX7_still_157 (lv_at hl 7 rfl) ?_
                  refine lv_isub hx hb dX7_still_159 ?_
                  refine lv_i2l hx hb dX7_still_160 rfl ?_
                  refine lv_lmul hx hb dX7_still_161 ?_
                  refine lv_lstore_n (lv' := [(3, .long (x3_37 * ((x8_k37_146 - x9_k37_146)).toInt64)), (0, .ref q_this), (1, .int a1), (2, .int a2), (5, .long x5_37), (7, .int x7_37), (8, .int x8_k37_146), (9, .int x9_k37_146)]) hx hb dX7_still_162 rfl hl (by decide) rfl (fun ls hl => ?_)
                  refine lv_lload hx hb dX7_still_163 (lv_at hl 4 rfl) ?_
                  refine lv_iload hx hb dX7_still_165 (lv_at hl 6 rfl) ?_
                  refine lv_i2l hx hb dX7_still_167 rfl ?_
                  refine lv_lmul hx hb dX7_still_168 ?_
                  refine lv_lstore (lv' := [(5, .long (x5_37 * (x8_k37_146).toInt64)), (3, .long (x3_37 * ((x8_k37_146 - x9_k37_146)).toInt64)), (0, .ref q_this), (1, .int a1), (2, .int a2), (7, .int x7_37), (8, .int x8_k37_146), (9, .int x9_k37_146)]) hx hb dX7_still_169 hl (by decide) rfl (fun ls hl => ?_)
                  refine lv_lload_n hx hb dX7_still_171 rfl (lv_at hl 1 rfl) ?_
                  refine lv_lload hx hb dX7_still_172 (lv_at hl 0 rfl) ?_
                  obtain ⟨o_174, he, hsh⟩ := bd hsh
                  refine kSl S hK hA (ctX7_divisor l D cI cJ cZ (x3_37 * ((x8_k37_146 - x9_k37_146)).toInt64) (x5_37 * (x8_k37_146).toInt64) o_174 he) noE_cl (va_cwS 2 hts gX7_still_X7_divisor rfl rfl rfl hdX7_divisor ⟨Nat.le_of_ble_eq_true rfl, Nat.le_of_ble_eq_true rfl⟩) [] [0, 1, 2, 3] [0, 1, 2, 3] (ws' := (wdX7_still cI cJ cZ q_this q_tape q_prior q_pipesIn q_pipe q_met q_chance q_rock q_people q_bad q_well q_ends q_runs q_way q_words q_told q_weight q_days q_depth q_bestDepth q_hopes q_planOf q_planDepth v_tapeSize (0 : Int32) v_salt v_dry v_rest v_fault v_faultPlace v_rocks v_villages v_day v_at v_allPipes v_end v_next v_kind v_which v_place v_isPlan v_planMany v_planPipes v_planDays w_well w_ends w_runs)) ⟨rfl, rfl, rfl, rfl, rfl, rfl, rfl⟩ trivial rfl hl.1 rfl (Nat.le_of_ble_eq_true rfl) dX7_still_174 hP hD hS (fun H locs hP hD hS => ?_)
                  refine lv_lstore (lv' := [(10, .long o_174), (5, .long (x5_37 * (x8_k37_146).toInt64)), (3, .long (x3_37 * ((x8_k37_146 - x9_k37_146)).toInt64)), (0, .ref q_this), (1, .int a1), (2, .int a2), (7, .int x7_37), (8, .int x8_k37_146), (9, .int x9_k37_146)]) hx hb dX7_still_177 hl (by decide) rfl (fun ls hl => ?_)
                  refine lv_lload_n hx hb dX7_still_179 rfl (lv_at hl 2 rfl) ?_
                  refine lv_lload hx hb dX7_still_180 (lv_at hl 0 rfl) ?_
                  obtain ⟨_, hg, hsh⟩ := bd hsh
                  refine lv_ldiv hx hb dX7_still_182 (gq_ne hg) ?_
                  refine lv_lstore_n (lv' := [(3, .long ((x3_37 * ((x8_k37_146 - x9_k37_146)).toInt64) / o_174)), (10, .long o_174), (5, .long (x5_37 * (x8_k37_146).toInt64)), (0, .ref q_this), (1, .int a1), (2, .int a2), (7, .int x7_37), (8, .int x8_k37_146), (9, .int x9_k37_146)]) hx hb dX7_still_183 rfl hl (by decide) rfl (fun ls hl => ?_)
                  refine lv_lload hx hb dX7_still_184 (lv_at hl 2 rfl) ?_
                  refine lv_lload hx hb dX7_still_186 (lv_at hl 1 rfl) ?_
                  obtain ⟨_, hg, hsh⟩ := bd hsh
                  refine lv_ldiv hx hb dX7_still_188 (gq_ne hg) ?_
                  refine lv_lstore (lv' := [(5, .long ((x5_37 * (x8_k37_146).toInt64) / o_174)), (3, .long ((x3_37 * ((x8_k37_146 - x9_k37_146)).toInt64) / o_174)), (10, .long o_174), (0, .ref q_this), (1, .int a1), (2, .int a2), (7, .int x7_37), (8, .int x8_k37_146), (9, .int x9_k37_146)]) hx hb dX7_still_189 hl (by decide) rfl (fun ls hl => ?_)
                  exact Jk37_191 ((x3_37 * ((x8_k37_146 - x9_k37_146)).toInt64) / o_174) ((x5_37 * (x8_k37_146).toInt64) / o_174) H locs hP hD hS ls (lv_sub hl [3, 4, 5, 1, 0, 6] rfl) hsh
                · skip
                  have hsh := ite_f hsh (fun h => h c1)
                  refine lv_goto (tgt := 191) hx hb dX7_still_151 (by decide) ?_
                  exact Jk37_191 x3_37 x5_37 H locs hP hD hS ls (lv_sub hl [0, 1, 2, 3, 4, 5] rfl) hsh
              refine lv_iload hx hb dX7_still_37 (lv_at hl 5 rfl) ?_
              refine lv_iload_n hx hb dX7_still_39 rfl (lv_at hl 1 rfl) ?_
              refine lv_icmp_gt (tgt := 197) hx hb dX7_still_40 (by decide) (fun c1 => ?_) (fun c1 => ?_)
              · skip
                have hsh := ite_t hsh c1
                have he := hB2_37 _ hsh
                rw [← he] at hk_37
                exact Jj_197 x3_37 x5_37 (0 : Int32) H locs hP hD hS ls (lv_sub hl [2, 3, 4] rfl) hk_37
              · skip
                have hsh := ite_f hsh c1
                refine lv_iconst (v := (0 : Int32)) hx hb dX7_still_43 (by decide) ?_
                refine lv_istore (lv' := [(8, .int (0 : Int32)), (0, .ref q_this), (1, .int a1), (2, .int a2), (3, .long x3_37), (5, .long x5_37), (7, .int x7_37)]) hx hb dX7_still_44 hl (by decide) rfl (fun ls hl => ?_)
                refine lv_iconst (v := (0 : Int32)) hx hb dX7_still_46 (by decide) ?_
                refine lv_istore (lv' := [(9, .int (0 : Int32)), (8, .int (0 : Int32)), (0, .ref q_this), (1, .int a1), (2, .int a2), (3, .long x3_37), (5, .long x5_37), (7, .int x7_37)]) hx hb dX7_still_47 hl (by decide) rfl (fun ls hl => ?_)
                refine lv_iconst (v := (1 : Int32)) hx hb dX7_still_49 (by decide) ?_
                refine lv_istore (lv' := [(10, .int (1 : Int32)), (9, .int (0 : Int32)), (8, .int (0 : Int32)), (0, .ref q_this), (1, .int a1), (2, .int a2), (3, .long x3_37), (5, .long x5_37), (7, .int x7_37)]) hx hb dX7_still_50 hl (by decide) rfl (fun ls hl => ?_)
                obtain ⟨r_52, hl_52, hk_52⟩ := bd hsh
                obtain ⟨n_52, hn_52⟩ := lp_iff.mp hl_52
                have L_52 : ∀ (n : Nat) (x8_52 : Int32) (x9_52 : Int32) (x10_52 : Int32) (H : Heap) (locs : List Loc), va_P D vwCl (wdX7_still cI cJ cZ q_this q_tape q_prior q_pipesIn q_pipe q_met q_chance q_rock q_people q_bad q_well q_ends q_runs q_way q_words q_told q_weight q_days q_depth q_bestDepth q_hopes q_planOf q_planDepth v_tapeSize (0 : Int32) v_salt v_dry v_rest v_fault v_faultPlace v_rocks v_villages v_day v_at v_allPipes v_end v_next v_kind v_which v_place v_isPlan v_planMany v_planPipes v_planDays w_well w_ends w_runs) H → va_D A (wdX7_still cI cJ cZ q_this q_tape q_prior q_pipesIn q_pipe q_met q_chance q_rock q_people q_bad q_well q_ends q_runs q_way q_words q_told q_weight q_days q_depth q_bestDepth q_hopes q_planOf q_planDepth v_tapeSize (0 : Int32) v_salt v_dry v_rest v_fault v_faultPlace v_rocks v_villages v_day v_at v_allPipes v_end v_next v_kind v_which v_place v_isPlan v_planMany v_planPipes v_planDays w_well w_ends w_runs) → va_S A s.heap H locs → ∀ ls : Array Slot, lv_has ls 12 [(0, .ref q_this), (1, .int a1), (2, .int a2), (3, .long x3_37), (5, .long x5_37), (7, .int x7_37), (8, .int x8_52), (9, .int x9_52), (10, .int x10_52)] → it (fun s : Int32 × Int32 × Int32 => shX7_still_L52 v_villages w_well w_ends w_runs x7_37 s.1 s.2.1 s.2.2) n (x8_52, x9_52, x10_52) = some r_52 → W p l e rmX7_still s m args below meth c H locs 0 0 Q (F0 m 52 ls []) := by
                  intro n
                  induction n with
                  | zero => exact fun _ _ _ _ _ _ _ _ _ _ hi => it_0 hi
                  | succ n ih_52 =>
                    intro x8_52 x9_52 x10_52 H locs hP hD hS ls hl hi
                    obtain ⟨b_52, hsh, hB1_52, hB2_52⟩ := it_b hi
                    replace hsh : shX7_still_L52 v_villages w_well w_ends w_runs x7_37 x8_52 x9_52 x10_52 = some b_52 := hsh
                    unfold shX7_still_L52 at hsh
                    have Jk52_140 : ∀ (x8_k52_140 : Int32) (x9_k52_140 : Int32) (H : Heap) (locs : List Loc), va_P D vwCl (wdX7_still cI cJ cZ q_this q_tape q_prior q_pipesIn q_pipe q_met q_chance q_rock q_people q_bad q_well q_ends q_runs q_way q_words q_told q_weight q_days q_depth q_bestDepth q_hopes q_planOf q_planDepth v_tapeSize (0 : Int32) v_salt v_dry v_rest v_fault v_faultPlace v_rocks v_villages v_day v_at v_allPipes v_end v_next v_kind v_which v_place v_isPlan v_planMany v_planPipes v_planDays w_well w_ends w_runs) H → va_D A (wdX7_still cI cJ cZ q_this q_tape q_prior q_pipesIn q_pipe q_met q_chance q_rock q_people q_bad q_well q_ends q_runs q_way q_words q_told q_weight q_days q_depth q_bestDepth q_hopes q_planOf q_planDepth v_tapeSize (0 : Int32) v_salt v_dry v_rest v_fault v_faultPlace v_rocks v_villages v_day v_at v_allPipes v_end v_next v_kind v_which v_place v_isPlan v_planMany v_planPipes v_planDays w_well w_ends w_runs) → va_S A s.heap H locs → ∀ ls : Array Slot, lv_has ls 12 [(0, .ref q_this), (1, .int a1), (2, .int a2), (3, .long x3_37), (5, .long x5_37), (7, .int x7_37), (8, .int x8_k52_140), (9, .int x9_k52_140), (10, .int x10_52)] → shX7_still_k52_140 x10_52 x8_k52_140 x9_k52_140 = some b_52 → W p l e rmX7_still s m args below meth c H locs 0 0 Q (F0 m 140 ls []) := by
                      intro x8_k52_140 x9_k52_140 H locs hP hD hS ls hl hsh
                      unfold shX7_still_k52_140 at hsh
                      refine lv_iinc (v := (x10_52 + (1 : Int32))) (lv' := [(10, .int (x10_52 + (1 : Int32))), (0, .ref q_this), (1, .int a1), (2, .int a2), (3, .long x3_37), (5, .long x5_37), (7, .int x7_37), (8, .int x8_k52_140), (9, .int x9_k52_140)]) hx hb dX7_still_140 hl (k := 8) rfl (congrArg (fun z : Int32 => x10_52 + z) (by decide)) (by decide) rfl (fun ls hl => ?_)
                      refine lv_goto (tgt := 52) hx hb dX7_still_143 (by decide) ?_
                      exact ih_52 x8_k52_140 x9_k52_140 (x10_52 + (1 : Int32)) H locs hP hD hS ls (lv_sub hl [1, 2, 3, 4, 5, 6, 7, 8, 0] rfl) (hB1_52 _ hsh)
                    have Jk52_137 : ∀ (s0_k52_137 : Int32) (s1_k52_137 : Int32) (x8_k52_137 : Int32) (H : Heap) (locs : List Loc), va_P D vwCl (wdX7_still cI cJ cZ q_this q_tape q_prior q_pipesIn q_pipe q_met q_chance q_rock q_people q_bad q_well q_ends q_runs q_way q_words q_told q_weight q_days q_depth q_bestDepth q_hopes q_planOf q_planDepth v_tapeSize (0 : Int32) v_salt v_dry v_rest v_fault v_faultPlace v_rocks v_villages v_day v_at v_allPipes v_end v_next v_kind v_which v_place v_isPlan v_planMany v_planPipes v_planDays w_well w_ends w_runs) H → va_D A (wdX7_still cI cJ cZ q_this q_tape q_prior q_pipesIn q_pipe q_met q_chance q_rock q_people q_bad q_well q_ends q_runs q_way q_words q_told q_weight q_days q_depth q_bestDepth q_hopes q_planOf q_planDepth v_tapeSize (0 : Int32) v_salt v_dry v_rest v_fault v_faultPlace v_rocks v_villages v_day v_at v_allPipes v_end v_next v_kind v_which v_place v_isPlan v_planMany v_planPipes v_planDays w_well w_ends w_runs) → va_S A s.heap H locs → ∀ ls : Array Slot, lv_has ls 12 [(0, .ref q_this), (1, .int a1), (2, .int a2), (3, .long x3_37), (5, .long x5_37), (7, .int x7_37), (8, .int x8_k52_137), (10, .int x10_52)] → shX7_still_k52_137 x10_52 s0_k52_137 s1_k52_137 x8_k52_137 = some b_52 → W p l e rmX7_still s m args below meth c H locs 0 0 Q (F0 m 137 ls [.int s1_k52_137, .int s0_k52_137]) := by
                      intro s0_k52_137 s1_k52_137 x8_k52_137 H locs hP hD hS ls hl hsh
                      unfold shX7_still_k52_137 at hsh
                      refine lv_iadd hx hb dX7_still_137 ?_
                      refine lv_istore (lv' := [(9, .int (s0_k52_137 + s1_k52_137)), (0, .ref q_this), (1, .int a1), (2, .int a2), (3, .long x3_37), (5, .long x5_37), (7, .int x7_37), (8, .int x8_k52_137), (10, .int x10_52)]) hx hb dX7_still_138 hl (by decide) rfl (fun ls hl => ?_)
                      exact Jk52_140 x8_k52_137 (s0_k52_137 + s1_k52_137) H locs hP hD hS ls (lv_sub hl [1, 2, 3, 4, 5, 6, 7, 0, 8] rfl) hsh
                    have Jk52_115 : ∀ (s0_k52_115 : Int32) (s1_k52_115 : Int32) (H : Heap) (locs : List Loc), va_P D vwCl (wdX7_still cI cJ cZ q_this q_tape q_prior q_pipesIn q_pipe q_met q_chance q_rock q_people q_bad q_well q_ends q_runs q_way q_words q_told q_weight q_days q_depth q_bestDepth q_hopes q_planOf q_planDepth v_tapeSize (0 : Int32) v_salt v_dry v_rest v_fault v_faultPlace v_rocks v_villages v_day v_at v_allPipes v_end v_next v_kind v_which v_place v_isPlan v_planMany v_planPipes v_planDays w_well w_ends w_runs) H → va_D A (wdX7_still cI cJ cZ q_this q_tape q_prior q_pipesIn q_pipe q_met q_chance q_rock q_people q_bad q_well q_ends q_runs q_way q_words q_told q_weight q_days q_depth q_bestDepth q_hopes q_planOf q_planDepth v_tapeSize (0 : Int32) v_salt v_dry v_rest v_fault v_faultPlace v_rocks v_villages v_day v_at v_allPipes v_end v_next v_kind v_which v_place v_isPlan v_planMany v_planPipes v_planDays w_well w_ends w_runs) → va_S A s.heap H locs → ∀ ls : Array Slot, lv_has ls 12 [(0, .ref q_this), (1, .int a1), (2, .int a2), (3, .long x3_37), (5, .long x5_37), (7, .int x7_37), (9, .int x9_52), (10, .int x10_52)] → shX7_still_k52_115 w_ends x7_37 x9_52 x10_52 s0_k52_115 s1_k52_115 = some b_52 → W p l e rmX7_still s m args below meth c H locs 0 0 Q (F0 m 115 ls [.int s1_k52_115, .int s0_k52_115]) := by
                      intro s0_k52_115 s1_k52_115 H locs hP hD hS ls hl hsh
                      unfold shX7_still_k52_115 at hsh
                      refine lv_iadd hx hb dX7_still_115 ?_
                      refine lv_istore (lv' := [(8, .int (s0_k52_115 + s1_k52_115)), (0, .ref q_this), (1, .int a1), (2, .int a2), (3, .long x3_37), (5, .long x5_37), (7, .int x7_37), (9, .int x9_52), (10, .int x10_52)]) hx hb dX7_still_116 hl (by decide) rfl (fun ls hl => ?_)
                      refine lv_iload hx hb dX7_still_118 (lv_at hl 7 rfl) ?_
                      refine lv_aload_n hx hb dX7_still_120 rfl (lv_at hl 1 rfl) ?_
                      refine kget (ci := 7) S hK hP rfl inX7_still_X7 0 rfl 19 (by decide) lkX7_still_51 rfl dX7_still_121 ?_
                      refine lv_iload hx hb dX7_still_124 (lv_at hl 8 rfl) ?_
                      obtain ⟨_, hg, hsh⟩ := bd hsh
                      refine kial S hK hP 2 0 rfl rfl (gd_in hg) dX7_still_126 ?_
                      refine lv_iload hx hb dX7_still_127 (lv_at hl 6 rfl) ?_
                      refine lv_icmp_ne (tgt := 136) hx hb dX7_still_129 (by decide) (fun c1 => ?_) (fun c1 => ?_)
                      · skip
                        have hsh := ite_t hsh c1
                        refine lv_iconst (v := (0 : Int32)) hx hb dX7_still_136 (by decide) ?_
                        exact Jk52_137 x9_52 (0 : Int32) (s0_k52_115 + s1_k52_115) H locs hP hD hS ls (lv_sub hl [1, 2, 3, 4, 5, 6, 0, 8] rfl) hsh
                      · skip
                        have hsh := ite_f hsh (fun h => h c1)
                        refine lv_iconst (v := (1 : Int32)) hx hb dX7_still_132 (by decide) ?_
                        refine lv_goto (tgt := 137) hx hb dX7_still_133 (by decide) ?_
                        exact Jk52_137 x9_52 (1 : Int32) (s0_k52_115 + s1_k52_115) H locs hP hD hS ls (lv_sub hl [1, 2, 3, 4, 5, 6, 0, 8] rfl) hsh
                    have Jk52_110 : ∀ (s0_k52_110 : Int32) (H : Heap) (locs : List Loc), va_P D vwCl (wdX7_still cI cJ cZ q_this q_tape q_prior q_pipesIn q_pipe q_met q_chance q_rock q_people q_bad q_well q_ends q_runs q_way q_words q_told q_weight q_days q_depth q_bestDepth q_hopes q_planOf q_planDepth v_tapeSize (0 : Int32) v_salt v_dry v_rest v_fault v_faultPlace v_rocks v_villages v_day v_at v_allPipes v_end v_next v_kind v_which v_place v_isPlan v_planMany v_planPipes v_planDays w_well w_ends w_runs) H → va_D A (wdX7_still cI cJ cZ q_this q_tape q_prior q_pipesIn q_pipe q_met q_chance q_rock q_people q_bad q_well q_ends q_runs q_way q_words q_told q_weight q_days q_depth q_bestDepth q_hopes q_planOf q_planDepth v_tapeSize (0 : Int32) v_salt v_dry v_rest v_fault v_faultPlace v_rocks v_villages v_day v_at v_allPipes v_end v_next v_kind v_which v_place v_isPlan v_planMany v_planPipes v_planDays w_well w_ends w_runs) → va_S A s.heap H locs → ∀ ls : Array Slot, lv_has ls 12 [(0, .ref q_this), (1, .int a1), (2, .int a2), (3, .long x3_37), (5, .long x5_37), (7, .int x7_37), (9, .int x9_52), (10, .int x10_52)] → shX7_still_k52_110 w_ends x7_37 x9_52 x10_52 s0_k52_110 = some b_52 → W p l e rmX7_still s m args below meth c H locs 0 0 Q (F0 m 110 ls [.int s0_k52_110]) := by
                      intro s0_k52_110 H locs hP hD hS ls hl hsh
                      unfold shX7_still_k52_110 at hsh
                      refine lv_iconst (v := (1 : Int32)) hx hb dX7_still_110 (by decide) ?_
                      refine lv_goto (tgt := 115) hx hb dX7_still_111 (by decide) ?_
                      exact Jk52_115 s0_k52_110 (1 : Int32) H locs hP hD hS ls (lv_sub hl [0, 1, 2, 3, 4, 5, 6, 7] rfl) hsh
                    have Jk52_114 : ∀ (s0_k52_114 : Int32) (H : Heap) (locs : List Loc), va_P D vwCl (wdX7_still cI cJ cZ q_this q_tape q_prior q_pipesIn q_pipe q_met q_chance q_rock q_people q_bad q_well q_ends q_runs q_way q_words q_told q_weight q_days q_depth q_bestDepth q_hopes q_planOf q_planDepth v_tapeSize (0 : Int32) v_salt v_dry v_rest v_fault v_faultPlace v_rocks v_villages v_day v_at v_allPipes v_end v_next v_kind v_which v_place v_isPlan v_planMany v_planPipes v_planDays w_well w_ends w_runs) H → va_D A (wdX7_still cI cJ cZ q_this q_tape q_prior q_pipesIn q_pipe q_met q_chance q_rock q_people q_bad q_well q_ends q_runs q_way q_words q_told q_weight q_days q_depth q_bestDepth q_hopes q_planOf q_planDepth v_tapeSize (0 : Int32) v_salt v_dry v_rest v_fault v_faultPlace v_rocks v_villages v_day v_at v_allPipes v_end v_next v_kind v_which v_place v_isPlan v_planMany v_planPipes v_planDays w_well w_ends w_runs) → va_S A s.heap H locs → ∀ ls : Array Slot, lv_has ls 12 [(0, .ref q_this), (1, .int a1), (2, .int a2), (3, .long x3_37), (5, .long x5_37), (7, .int x7_37), (9, .int x9_52), (10, .int x10_52)] → shX7_still_k52_114 w_ends x7_37 x9_52 x10_52 s0_k52_114 = some b_52 → W p l e rmX7_still s m args below meth c H locs 0 0 Q (F0 m 114 ls [.int s0_k52_114]) := by
                      intro s0_k52_114 H locs hP hD hS ls hl hsh
                      unfold shX7_still_k52_114 at hsh
                      refine lv_iconst (v := (0 : Int32)) hx hb dX7_still_114 (by decide) ?_
                      exact Jk52_115 s0_k52_114 (0 : Int32) H locs hP hD hS ls (lv_sub hl [0, 1, 2, 3, 4, 5, 6, 7] rfl) hsh
                    refine lv_iload hx hb dX7_still_52 (lv_at hl 8 rfl) ?_
                    refine lv_aload_n hx hb dX7_still_54 rfl (lv_at hl 0 rfl) ?_
                    refine kget (ci := 7) S hK hP rfl inX7_still_X7 0 rfl 14 (by decide) lkX7_still_143 rfl dX7_still_55 ?_
                    refine lv_icmp_gt (tgt := 146) hx hb dX7_still_58 (by decide) (fun c1 => ?_) (fun c1 => ?_)
                    · skip
                      have hsh := ite_t hsh c1
                      have he := hB2_52 _ hsh
                      rw [← he] at hk_52
                      exact Jk37_146 x8_52 x9_52 H locs hP hD hS ls (lv_sub hl [0, 1, 2, 3, 4, 5, 6, 7] rfl) hk_52
                    · skip
                      have hsh := ite_f hsh c1
                      refine lv_aload_n hx hb dX7_still_61 rfl (lv_at hl 0 rfl) ?_
                      refine kget (ci := 7) S hK hP rfl inX7_still_X7 0 rfl 18 (by decide) lkX7_still_48 rfl dX7_still_62 ?_
                      refine lv_iload hx hb dX7_still_65 (lv_at hl 8 rfl) ?_
                      obtain ⟨_, hg, hsh⟩ := bd hsh
                      refine kial S hK hP 1 0 rfl rfl (gd_in hg) dX7_still_67 ?_
                      refine lv_if_ne (tgt := 74) hx hb dX7_still_68 (by decide) (fun c1 => ?_) (fun c1 => ?_)
                      · skip
                        have hsh := ite_t hsh c1
                        refine lv_iload hx hb dX7_still_74 (lv_at hl 6 rfl) ?_
                        refine lv_aload_n hx hb dX7_still_76 rfl (lv_at hl 0 rfl) ?_
                        refine kget (ci := 7) S hK hP rfl inX7_still_X7 0 rfl 19 (by decide) lkX7_still_51 rfl dX7_still_77 ?_
                        refine lv_iload hx hb dX7_still_80 (lv_at hl 8 rfl) ?_
                        obtain ⟨_, hg, hsh⟩ := bd hsh
                        refine kial S hK hP 2 0 rfl rfl (gd_in hg) dX7_still_82 ?_
                        refine lv_iload hx hb dX7_still_83 (lv_at hl 5 rfl) ?_
                        refine lv_icmp_ge (tgt := 110) hx hb dX7_still_85 (by decide) (fun c1 => ?_) (fun c1 => ?_)
                        · skip
                          have hsh := ite_t hsh c1
                          exact Jk52_110 x8_52 H locs hP hD hS ls (lv_sub hl [0, 1, 2, 3, 4, 5, 7, 8] rfl) hsh
                        · skip
                          have hsh := ite_f hsh c1
                          refine lv_aload_n hx hb dX7_still_88 rfl (lv_at hl 0 rfl) ?_
                          refine kget (ci := 7) S hK hP rfl inX7_still_X7 0 rfl 19 (by decide) lkX7_still_51 rfl dX7_still_89 ?_
                          refine lv_iload hx hb dX7_still_92 (lv_at hl 8 rfl) ?_
                          obtain ⟨_, hg, hsh⟩ := bd hsh
                          refine kial S hK hP 2 0 rfl rfl (gd_in hg) dX7_still_94 ?_
                          refine lv_if_ge (tgt := 114) hx hb dX7_still_95 (by decide) (fun c1 => ?_) (fun c1 => ?_)
                          · skip
                            have hsh := ite_t hsh c1
                            exact Jk52_114 x8_52 H locs hP hD hS ls (lv_sub hl [0, 1, 2, 3, 4, 5, 7, 8] rfl) hsh
                          · skip
                            have hsh := ite_f hsh c1
                            refine lv_aload_n hx hb dX7_still_98 rfl (lv_at hl 0 rfl) ?_
                            refine kget (ci := 7) S hK hP rfl inX7_still_X7 0 rfl 20 (by decide) lkX7_still_54 rfl dX7_still_99 ?_
                            refine lv_iload hx hb dX7_still_102 (lv_at hl 8 rfl) ?_
                            obtain ⟨_, hg, hsh⟩ := bd hsh
                            refine kial S hK hP 3 0 rfl rfl (gd_in hg) dX7_still_104 ?_
                            refine lv_iload hx hb dX7_still_105 (lv_at hl 5 rfl) ?_
                            refine lv_icmp_lt (tgt := 114) hx hb dX7_still_107 (by decide) (fun c1 => ?_) (fun c1 => ?_)
                            · skip
                              have hsh := ite_t hsh c1
                              exact Jk52_114 x8_52 H locs hP hD hS ls (lv_sub hl [0, 1, 2, 3, 4, 5, 7, 8] rfl) hsh
                            · skip
                              have hsh := ite_f hsh c1
                              exact Jk52_110 x8_52 H locs hP hD hS ls (lv_sub hl [0, 1, 2, 3, 4, 5, 7, 8] rfl) hsh
                      · skip
                        have hsh := ite_f hsh (fun h => h c1)
                        refine lv_goto (tgt := 140) hx hb dX7_still_71 (by decide) ?_
                        exact Jk52_140 x8_52 x9_52 H locs hP hD hS ls (lv_sub hl [0, 1, 2, 3, 4, 5, 6, 7, 8] rfl) hsh
                exact L_52 n_52 (0 : Int32) (0 : Int32) (1 : Int32) H locs hP hD hS ls (lv_sub hl [3, 4, 5, 6, 7, 8, 2, 1, 0] rfl) hn_52
          exact L_37 n_37 (1 : Int64) (1 : Int64) (1 : Int32) H locs hP hD hS ls (lv_sub hl [3, 4, 5, 2, 1, 0] rfl) hn_37
        · skip
          have hsh := ite_f hsh c1
          refine lv_ldc2 hx hb hown (v := (-1 : Int64)) (hts _ (List.mem_of_getElem? (i := 2) rfl)) dX7_still_25 ?_
          have ho := Option.some.inj hsh
          rw [← ho] at hret
          exact hret _ _ _ _ dX7_still_28 hP hD hS

/-! DryWellsModel.fails -/
noncomputable def shX7_fails (a1 : Int32) (v_thrown : Int32) : Option (Int32 × Int32) :=
  some ((0 : Int32), a1)
def wdX7_fails (cI cJ cZ : ClassId) (q_this q_tape q_prior q_pipesIn q_pipe q_met q_chance q_rock q_people q_bad q_well q_ends q_runs q_way q_words q_told q_weight q_days q_depth q_bestDepth q_hopes q_planOf q_planDepth : Nat) (v_tapeSize : Int32) (v_thrown : Int32) (v_salt : Int32) (v_dry : Int32) (v_rest : Int32) (v_fault : Int32) (v_faultPlace : Int32) (v_rocks : Int32) (v_villages : Int32) (v_day : Int32) (v_at : Int32) (v_allPipes : Int32) (v_end : Int32) (v_next : Int32) (v_kind : Int32) (v_which : Int32) (v_place : Int32) (v_isPlan : Int32) (v_planMany : Int32) (v_planPipes : Int32) (v_planDays : Int32) : va_W := [(q_this, .inr (7, [.ref q_tape, .int v_tapeSize, .int v_thrown, .int v_salt, .int v_dry, .int v_rest, .int v_fault, .int v_faultPlace, .int v_rocks, .ref q_prior, .ref q_pipesIn, .ref q_pipe, .ref q_met, .ref q_chance, .int v_villages, .ref q_rock, .ref q_people, .ref q_bad, .ref q_well, .ref q_ends, .ref q_runs, .ref q_way, .int v_day, .int v_at, .int v_allPipes, .ref q_words, .int v_end, .int v_next, .int v_kind, .int v_which, .int v_place, .ref q_told, .ref q_weight, .ref q_days, .ref q_depth, .ref q_bestDepth, .ref q_hopes, .int v_isPlan, .int v_planMany, .int v_planPipes, .int v_planDays, .ref q_planOf, .ref q_planDepth]))]
abbrev rmX7_fails : Room := { frames := 0, cells := 0, slots := 0, locals := 0 }
theorem inX7_fails_X7 : ∀ w ∈ u_ws RX7 TX7 43, w ∈ wsX7_fails := fun _ h => List.mem_cons_of_mem _ (List.mem_append_right _ h)
theorem lkX7_fails_88 : Cond.fieldLink RX7 88 (TX7 2).1 (TX7 2).2.1 (TX7 2).2.2.1 ∈ wsX7_fails := List.mem_of_getElem? (i := 1) rfl
theorem hdX7_fails : yX7_fails.cls = RX7 ∧ yX7_fails.cls ≠ "java/lang/invoke/MethodHandle" ∧ yX7_fails.cls ≠ "java/lang/invoke/VarHandle" ∧ (parseMethodDescriptor yX7_fails.desc).map (fun d => d.parameters.length) = some 1 := by decide +kernel
set_option maxHeartbeats 4000000 in
set_option maxRecDepth 100000 in
theorem ctX7_fails (l : Launch) (D : va_G) (cI cJ cZ : ClassId) (q_this q_tape q_prior q_pipesIn q_pipe q_met q_chance q_rock q_people q_bad q_well q_ends q_runs q_way q_words q_told q_weight q_days q_depth q_bestDepth q_hopes q_planOf q_planDepth : Nat) (v_tapeSize : Int32) (v_thrown : Int32) (v_salt : Int32) (v_dry : Int32) (v_rest : Int32) (v_fault : Int32) (v_faultPlace : Int32) (v_rocks : Int32) (v_villages : Int32) (v_day : Int32) (v_at : Int32) (v_allPipes : Int32) (v_end : Int32) (v_next : Int32) (v_kind : Int32) (v_which : Int32) (v_place : Int32) (v_isPlan : Int32) (v_planMany : Int32) (v_planPipes : Int32) (v_planDays : Int32) (a1 : Int32) (o : Int32 × Int32) (hsh : shX7_fails a1 v_thrown = some o) : CtI l yX7_fails wsX7_fails rmX7_fails D (tys3 cI cJ cZ) noE (wdX7_fails cI cJ cZ q_this q_tape q_prior q_pipesIn q_pipe q_met q_chance q_rock q_people q_bad q_well q_ends q_runs q_way q_words q_told q_weight q_days q_depth q_bestDepth q_hopes q_planOf q_planDepth v_tapeSize v_thrown v_salt v_dry v_rest v_fault v_faultPlace v_rocks v_villages v_day v_at v_allPipes v_end v_next v_kind v_which v_place v_isPlan v_planMany v_planPipes v_planDays) [.ref q_this, .int a1] o.1 (wdX7_fails cI cJ cZ q_this q_tape q_prior q_pipesIn q_pipe q_met q_chance q_rock q_people q_bad q_well q_ends q_runs q_way q_words q_told q_weight q_days q_depth q_bestDepth q_hopes q_planOf q_planDepth v_tapeSize o.2 v_salt v_dry v_rest v_fault v_faultPlace v_rocks v_villages v_day v_at v_allPipes v_end v_next v_kind v_which v_place v_isPlan v_planMany v_planPipes v_planDays) := by
  refine ctI plX7 rfl (Nat.le_of_ble_eq_true rfl) ?_
  intro p e s m below meth c A Q S hK hA hE hret H locs hP hD hS ls hl
  replace S : CallFix p m c cX7_fails 2 s _ wsX7_fails RX7 := S
  generalize ([.ref q_this, .int a1] : List Value).toArray = args at S hret ⊢
  obtain ⟨hx, hb, hml, hown, hts⟩ := id S
  replace hl : lv_has ls 2 [(0, .ref q_this), (1, .int a1)] := hl
  unfold shX7_fails at hsh
  refine lv_aload_n hx hb dX7_fails_0 rfl (lv_at hl 0 rfl) ?_
  refine lv_iload_n hx hb dX7_fails_1 rfl (lv_at hl 1 rfl) ?_
  refine kput (ci := 7) S hK hP hD hS rfl inX7_fails_X7 tyX7_ok nmX7 0 rfl 2 (by decide) lkX7_fails_88 rfl rfl rfl (Nat.le_of_ble_eq_true rfl) (ws' := (wdX7_fails cI cJ cZ q_this q_tape q_prior q_pipesIn q_pipe q_met q_chance q_rock q_people q_bad q_well q_ends q_runs q_way q_words q_told q_weight q_days q_depth q_bestDepth q_hopes q_planOf q_planDepth v_tapeSize a1 v_salt v_dry v_rest v_fault v_faultPlace v_rocks v_villages v_day v_at v_allPipes v_end v_next v_kind v_which v_place v_isPlan v_planMany v_planPipes v_planDays)) rfl dX7_fails_2 (fun H locs hP hD hS => ?_)
  refine lv_iconst (v := (0 : Int32)) hx hb dX7_fails_5 (by decide) ?_
  have ho := Option.some.inj hsh
  rw [← ho] at hret
  exact hret _ _ _ _ dX7_fails_6 hP hD hS

/-! DryWellsModel.look -/
noncomputable def shX7_look (a1 : Int32) (a2 : Int32) (v_thrown : Int32) (v_dry : Int32) (v_villages : Int32) (w_rock : Nat → Int32) (w_people : Nat → Int32) (w_bad : Nat → Int32) (w_well : Nat → Int32) (w_ends : Nat → Int32) (w_runs : Nat → Int32) : Option (Int32 × Int32) :=
  ((shX7_isVillage a1 v_villages).bind fun o_7 => (if ¬ o_7 = 0 then (if a2 = (0 : Int32) then ((gd a1 8).bind fun _ => some ((w_rock (a1).toNatClampNeg), (0 : Int32))) else (if a2 = (1 : Int32) then ((gd a1 8).bind fun _ => some ((w_people (a1).toNatClampNeg), (0 : Int32))) else (if a2 = (2 : Int32) then ((gd a1 8).bind fun _ => (if (w_well (a1).toNatClampNeg) ≤ 0 then ((gd a1 8).bind fun _ => (if (w_bad (a1).toNatClampNeg) < v_dry then some ((0 : Int32), (0 : Int32)) else some ((2 : Int32), (0 : Int32)))) else some ((1 : Int32), (0 : Int32)))) else (if a2 = (3 : Int32) then ((gd a1 8).bind fun _ => some ((w_bad (a1).toNatClampNeg), (0 : Int32))) else (if a2 = (4 : Int32) then ((gd a1 8).bind fun _ => (if (w_well (a1).toNatClampNeg) ≤ 0 then some ((-1 : Int32), (0 : Int32)) else ((gd a1 8).bind fun _ => some ((w_well (a1).toNatClampNeg), (0 : Int32))))) else (if a2 = (5 : Int32) then ((gd a1 8).bind fun _ => some ((w_ends (a1).toNatClampNeg), (0 : Int32))) else (if a2 = (6 : Int32) then ((gd a1 8).bind fun _ => some ((w_runs (a1).toNatClampNeg), (0 : Int32))) else ((shX7_fails (2 : Int32) (0 : Int32)).bind fun o_153 => some (o_153.1, o_153.2))))))))) else ((shX7_fails (1 : Int32) (0 : Int32)).bind fun o_15 => some (o_15.1, o_15.2))))
def wdX7_look (cI cJ cZ : ClassId) (q_this q_tape q_prior q_pipesIn q_pipe q_met q_chance q_rock q_people q_bad q_well q_ends q_runs q_way q_words q_told q_weight q_days q_depth q_bestDepth q_hopes q_planOf q_planDepth : Nat) (v_tapeSize : Int32) (v_thrown : Int32) (v_salt : Int32) (v_dry : Int32) (v_rest : Int32) (v_fault : Int32) (v_faultPlace : Int32) (v_rocks : Int32) (v_villages : Int32) (v_day : Int32) (v_at : Int32) (v_allPipes : Int32) (v_end : Int32) (v_next : Int32) (v_kind : Int32) (v_which : Int32) (v_place : Int32) (v_isPlan : Int32) (v_planMany : Int32) (v_planPipes : Int32) (v_planDays : Int32) (w_rock : Nat → Int32) (w_people : Nat → Int32) (w_bad : Nat → Int32) (w_well : Nat → Int32) (w_ends : Nat → Int32) (w_runs : Nat → Int32) : va_W := [(q_this, .inr (7, [.ref q_tape, .int v_tapeSize, .int v_thrown, .int v_salt, .int v_dry, .int v_rest, .int v_fault, .int v_faultPlace, .int v_rocks, .ref q_prior, .ref q_pipesIn, .ref q_pipe, .ref q_met, .ref q_chance, .int v_villages, .ref q_rock, .ref q_people, .ref q_bad, .ref q_well, .ref q_ends, .ref q_runs, .ref q_way, .int v_day, .int v_at, .int v_allPipes, .ref q_words, .int v_end, .int v_next, .int v_kind, .int v_which, .int v_place, .ref q_told, .ref q_weight, .ref q_days, .ref q_depth, .ref q_bestDepth, .ref q_hopes, .int v_isPlan, .int v_planMany, .int v_planPipes, .int v_planDays, .ref q_planOf, .ref q_planDepth])), (q_rock, .inl (cI, 8, .inl w_rock)), (q_people, .inl (cI, 8, .inl w_people)), (q_bad, .inl (cI, 8, .inl w_bad)), (q_well, .inl (cI, 8, .inl w_well)), (q_ends, .inl (cI, 8, .inl w_ends)), (q_runs, .inl (cI, 8, .inl w_runs))]
abbrev rmX7_look : Room := { frames := 1, cells := 0, slots := 0, locals := 21 }
theorem inX7_look_X7 : ∀ w ∈ u_ws RX7 TX7 43, w ∈ wsX7_look := fun _ h => List.mem_cons_of_mem _ (List.mem_append_right _ h)
theorem lkX7_look_88 : Cond.fieldLink RX7 88 (TX7 2).1 (TX7 2).2.1 (TX7 2).2.2.1 ∈ wsX7_look := List.mem_of_getElem? (i := 1) rfl
theorem lkX7_look_39 : Cond.fieldLink RX7 39 (TX7 15).1 (TX7 15).2.1 (TX7 15).2.2.1 ∈ wsX7_look := List.mem_of_getElem? (i := 2) rfl
theorem lkX7_look_42 : Cond.fieldLink RX7 42 (TX7 16).1 (TX7 16).2.1 (TX7 16).2.2.1 ∈ wsX7_look := List.mem_of_getElem? (i := 3) rfl
theorem lkX7_look_48 : Cond.fieldLink RX7 48 (TX7 18).1 (TX7 18).2.1 (TX7 18).2.2.1 ∈ wsX7_look := List.mem_of_getElem? (i := 4) rfl
theorem lkX7_look_45 : Cond.fieldLink RX7 45 (TX7 17).1 (TX7 17).2.1 (TX7 17).2.2.1 ∈ wsX7_look := List.mem_of_getElem? (i := 5) rfl
theorem lkX7_look_17 : Cond.fieldLink RX7 17 (TX7 4).1 (TX7 4).2.1 (TX7 4).2.2.1 ∈ wsX7_look := List.mem_of_getElem? (i := 6) rfl
theorem lkX7_look_51 : Cond.fieldLink RX7 51 (TX7 19).1 (TX7 19).2.1 (TX7 19).2.2.1 ∈ wsX7_look := List.mem_of_getElem? (i := 7) rfl
theorem lkX7_look_54 : Cond.fieldLink RX7 54 (TX7 20).1 (TX7 20).2.1 (TX7 20).2.2.1 ∈ wsX7_look := List.mem_of_getElem? (i := 8) rfl
theorem hdX7_look : yX7_look.cls = RX7 ∧ yX7_look.cls ≠ "java/lang/invoke/MethodHandle" ∧ yX7_look.cls ≠ "java/lang/invoke/VarHandle" ∧ (parseMethodDescriptor yX7_look.desc).map (fun d => d.parameters.length) = some 2 := by decide +kernel
set_option maxHeartbeats 4000000 in
set_option maxRecDepth 100000 in
theorem ctX7_look (l : Launch) (D : va_G) (cI cJ cZ : ClassId) (q_this q_tape q_prior q_pipesIn q_pipe q_met q_chance q_rock q_people q_bad q_well q_ends q_runs q_way q_words q_told q_weight q_days q_depth q_bestDepth q_hopes q_planOf q_planDepth : Nat) (v_tapeSize : Int32) (v_thrown : Int32) (v_salt : Int32) (v_dry : Int32) (v_rest : Int32) (v_fault : Int32) (v_faultPlace : Int32) (v_rocks : Int32) (v_villages : Int32) (v_day : Int32) (v_at : Int32) (v_allPipes : Int32) (v_end : Int32) (v_next : Int32) (v_kind : Int32) (v_which : Int32) (v_place : Int32) (v_isPlan : Int32) (v_planMany : Int32) (v_planPipes : Int32) (v_planDays : Int32) (w_rock : Nat → Int32) (w_people : Nat → Int32) (w_bad : Nat → Int32) (w_well : Nat → Int32) (w_ends : Nat → Int32) (w_runs : Nat → Int32) (a1 : Int32) (a2 : Int32) (o : Int32 × Int32) (hsh : shX7_look a1 a2 v_thrown v_dry v_villages w_rock w_people w_bad w_well w_ends w_runs = some o) : CtI l yX7_look wsX7_look rmX7_look D (tys3 cI cJ cZ) noE (wdX7_look cI cJ cZ q_this q_tape q_prior q_pipesIn q_pipe q_met q_chance q_rock q_people q_bad q_well q_ends q_runs q_way q_words q_told q_weight q_days q_depth q_bestDepth q_hopes q_planOf q_planDepth v_tapeSize v_thrown v_salt v_dry v_rest v_fault v_faultPlace v_rocks v_villages v_day v_at v_allPipes v_end v_next v_kind v_which v_place v_isPlan v_planMany v_planPipes v_planDays w_rock w_people w_bad w_well w_ends w_runs) [.ref q_this, .int a1, .int a2] o.1 (wdX7_look cI cJ cZ q_this q_tape q_prior q_pipesIn q_pipe q_met q_chance q_rock q_people q_bad q_well q_ends q_runs q_way q_words q_told q_weight q_days q_depth q_bestDepth q_hopes q_planOf q_planDepth v_tapeSize o.2 v_salt v_dry v_rest v_fault v_faultPlace v_rocks v_villages v_day v_at v_allPipes v_end v_next v_kind v_which v_place v_isPlan v_planMany v_planPipes v_planDays w_rock w_people w_bad w_well w_ends w_runs) := by
  refine ctI plX7 rfl (Nat.le_of_ble_eq_true rfl) ?_
  intro p e s m below meth c A Q S hK hA hE hret H locs hP hD hS ls hl
  replace S : CallFix p m c cX7_look 3 s _ wsX7_look RX7 := S
  generalize ([.ref q_this, .int a1, .int a2] : List Value).toArray = args at S hret ⊢
  obtain ⟨hx, hb, hml, hown, hts⟩ := id S
  replace hl : lv_has ls 3 [(0, .ref q_this), (1, .int a1), (2, .int a2)] := hl
  unfold shX7_look at hsh
  refine lv_aload_n hx hb dX7_look_0 rfl (lv_at hl 0 rfl) ?_
  refine lv_iconst (v := (0 : Int32)) hx hb dX7_look_1 (by decide) ?_
  refine kput (ci := 7) S hK hP hD hS rfl inX7_look_X7 tyX7_ok nmX7 0 rfl 2 (by decide) lkX7_look_88 rfl rfl rfl (Nat.le_of_ble_eq_true rfl) (ws' := (wdX7_look cI cJ cZ q_this q_tape q_prior q_pipesIn q_pipe q_met q_chance q_rock q_people q_bad q_well q_ends q_runs q_way q_words q_told q_weight q_days q_depth q_bestDepth q_hopes q_planOf q_planDepth v_tapeSize (0 : Int32) v_salt v_dry v_rest v_fault v_faultPlace v_rocks v_villages v_day v_at v_allPipes v_end v_next v_kind v_which v_place v_isPlan v_planMany v_planPipes v_planDays w_rock w_people w_bad w_well w_ends w_runs)) rfl dX7_look_2 (fun H locs hP hD hS => ?_)
  refine lv_aload_n hx hb dX7_look_5 rfl (lv_at hl 0 rfl) ?_
  refine lv_iload_n hx hb dX7_look_6 rfl (lv_at hl 1 rfl) ?_
  obtain ⟨o_7, he, hsh⟩ := bd hsh
  refine kVi (ci := 7) S hK hA (ctX7_isVillage l D cI cJ cZ q_this q_tape q_prior q_pipesIn q_pipe q_met q_chance q_rock q_people q_bad q_well q_ends q_runs q_way q_words q_told q_weight q_days q_depth q_bestDepth q_hopes q_planOf q_planDepth v_tapeSize (0 : Int32) v_salt v_dry v_rest v_fault v_faultPlace v_rocks v_villages v_day v_at v_allPipes v_end v_next v_kind v_which v_place v_isPlan v_planMany v_planPipes v_planDays a1 o_7 he) noE_cl (cwV 1 hts gX7_look_X7_isVillage rfl rfl rfl hdX7_isVillage ⟨Nat.le_of_ble_eq_true rfl, Nat.le_of_ble_eq_true rfl⟩) rfl 0 rfl [0] [1, 2, 3, 4, 5, 6] [6, 0, 1, 2, 3, 4, 5] (ws' := (wdX7_look cI cJ cZ q_this q_tape q_prior q_pipesIn q_pipe q_met q_chance q_rock q_people q_bad q_well q_ends q_runs q_way q_words q_told q_weight q_days q_depth q_bestDepth q_hopes q_planOf q_planDepth v_tapeSize (0 : Int32) v_salt v_dry v_rest v_fault v_faultPlace v_rocks v_villages v_day v_at v_allPipes v_end v_next v_kind v_which v_place v_isPlan v_planMany v_planPipes v_planDays w_rock w_people w_bad w_well w_ends w_runs)) ⟨rfl, rfl, rfl, rfl, rfl, rfl, rfl⟩ trivial rfl hl.1 rfl (Nat.le_of_ble_eq_true rfl) dX7_look_7 hP hD hS (fun H locs hP hD hS => ?_)
  refine lv_if_ne (tgt := 19) hx hb dX7_look_10 (by decide) (fun c1 => ?_) (fun c1 => ?_)
  · skip
    have hsh := ite_t hsh c1
    refine lv_iload_n hx hb dX7_look_19 rfl (lv_at hl 2 rfl) ?_
    by_cases c_0 : a2 = (0 : Int32)
    · have hsh := ite_t hsh c_0
      refine lv_tableIn (tgt := 64) hx hb dX7_look_20 (by rw [c_0]; decide) (by rw [c_0]; decide) (by rw [c_0]; rfl) (by decide) ?_
      refine lv_aload_n hx hb dX7_look_64 rfl (lv_at hl 0 rfl) ?_
      refine kget (ci := 7) S hK hP rfl inX7_look_X7 0 rfl 15 (by decide) lkX7_look_39 rfl dX7_look_65 ?_
      refine lv_iload_n hx hb dX7_look_68 rfl (lv_at hl 1 rfl) ?_
      obtain ⟨_, hg, hsh⟩ := bd hsh
      refine kial S hK hP 1 0 rfl rfl (gd_in hg) dX7_look_69 ?_
      have ho := Option.some.inj hsh
      rw [← ho] at hret
      exact hret _ _ _ _ dX7_look_70 hP hD hS
    have hsh := ite_f hsh c_0
    by_cases c_1 : a2 = (1 : Int32)
    · have hsh := ite_t hsh c_1
      refine lv_tableIn (tgt := 71) hx hb dX7_look_20 (by rw [c_1]; decide) (by rw [c_1]; decide) (by rw [c_1]; rfl) (by decide) ?_
      refine lv_aload_n hx hb dX7_look_71 rfl (lv_at hl 0 rfl) ?_
      refine kget (ci := 7) S hK hP rfl inX7_look_X7 0 rfl 16 (by decide) lkX7_look_42 rfl dX7_look_72 ?_
      refine lv_iload_n hx hb dX7_look_75 rfl (lv_at hl 1 rfl) ?_
      obtain ⟨_, hg, hsh⟩ := bd hsh
      refine kial S hK hP 2 0 rfl rfl (gd_in hg) dX7_look_76 ?_
      have ho := Option.some.inj hsh
      rw [← ho] at hret
      exact hret _ _ _ _ dX7_look_77 hP hD hS
    have hsh := ite_f hsh c_1
    by_cases c_2 : a2 = (2 : Int32)
    · have hsh := ite_t hsh c_2
      refine lv_tableIn (tgt := 78) hx hb dX7_look_20 (by rw [c_2]; decide) (by rw [c_2]; decide) (by rw [c_2]; rfl) (by decide) ?_
      refine lv_aload_n hx hb dX7_look_78 rfl (lv_at hl 0 rfl) ?_
      refine kget (ci := 7) S hK hP rfl inX7_look_X7 0 rfl 18 (by decide) lkX7_look_48 rfl dX7_look_79 ?_
      refine lv_iload_n hx hb dX7_look_82 rfl (lv_at hl 1 rfl) ?_
      obtain ⟨_, hg, hsh⟩ := bd hsh
      refine kial S hK hP 4 0 rfl rfl (gd_in hg) dX7_look_83 ?_
      refine lv_if_le (tgt := 91) hx hb dX7_look_84 (by decide) (fun c1 => ?_) (fun c1 => ?_)
      · skip
        have hsh := ite_t hsh c1
        refine lv_aload_n hx hb dX7_look_91 rfl (lv_at hl 0 rfl) ?_
        refine kget (ci := 7) S hK hP rfl inX7_look_X7 0 rfl 17 (by decide) lkX7_look_45 rfl dX7_look_92 ?_
        refine lv_iload_n hx hb dX7_look_95 rfl (lv_at hl 1 rfl) ?_
        obtain ⟨_, hg, hsh⟩ := bd hsh
        refine kial S hK hP 3 0 rfl rfl (gd_in hg) dX7_look_96 ?_
        refine lv_aload_n hx hb dX7_look_97 rfl (lv_at hl 0 rfl) ?_
        refine kget (ci := 7) S hK hP rfl inX7_look_X7 0 rfl 4 (by decide) lkX7_look_17 rfl dX7_look_98 ?_
        refine lv_icmp_lt (tgt := 108) hx hb dX7_look_101 (by decide) (fun c1 => ?_) (fun c1 => ?_)
        · skip
          have hsh := ite_t hsh c1
          refine lv_iconst (v := (0 : Int32)) hx hb dX7_look_108 (by decide) ?_
          have ho := Option.some.inj hsh
          rw [← ho] at hret
          exact hret _ _ _ _ dX7_look_109 hP hD hS
        · skip
          have hsh := ite_f hsh c1
          refine lv_iconst (v := (2 : Int32)) hx hb dX7_look_104 (by decide) ?_
          refine lv_goto (tgt := 109) hx hb dX7_look_105 (by decide) ?_
          have ho := Option.some.inj hsh
          rw [← ho] at hret
          exact hret _ _ _ _ dX7_look_109 hP hD hS
      · skip
        have hsh := ite_f hsh c1
        refine lv_iconst (v := (1 : Int32)) hx hb dX7_look_87 (by decide) ?_
        refine lv_goto (tgt := 109) hx hb dX7_look_88 (by decide) ?_
        have ho := Option.some.inj hsh
        rw [← ho] at hret
        exact hret _ _ _ _ dX7_look_109 hP hD hS
    have hsh := ite_f hsh c_2
    by_cases c_3 : a2 = (3 : Int32)
    · have hsh := ite_t hsh c_3
      refine lv_tableIn (tgt := 110) hx hb dX7_look_20 (by rw [c_3]; decide) (by rw [c_3]; decide) (by rw [c_3]; rfl) (by decide) ?_
      refine lv_aload_n hx hb dX7_look_110 rfl (lv_at hl 0 rfl) ?_
      refine kget (ci := 7) S hK hP rfl inX7_look_X7 0 rfl 17 (by decide) lkX7_look_45 rfl dX7_look_111 ?_
      refine lv_iload_n hx hb dX7_look_114 rfl (lv_at hl 1 rfl) ?_
      obtain ⟨_, hg, hsh⟩ := bd hsh
      refine kial S hK hP 3 0 rfl rfl (gd_in hg) dX7_look_115 ?_
      have ho := Option.some.inj hsh
      rw [← ho] at hret
      exact hret _ _ _ _ dX7_look_116 hP hD hS
    have hsh := ite_f hsh c_3
    by_cases c_4 : a2 = (4 : Int32)
    · have hsh := ite_t hsh c_4
      refine lv_tableIn (tgt := 117) hx hb dX7_look_20 (by rw [c_4]; decide) (by rw [c_4]; decide) (by rw [c_4]; rfl) (by decide) ?_
      refine lv_aload_n hx hb dX7_look_117 rfl (lv_at hl 0 rfl) ?_
      refine kget (ci := 7) S hK hP rfl inX7_look_X7 0 rfl 18 (by decide) lkX7_look_48 rfl dX7_look_118 ?_
      refine lv_iload_n hx hb dX7_look_121 rfl (lv_at hl 1 rfl) ?_
      obtain ⟨_, hg, hsh⟩ := bd hsh
      refine kial S hK hP 4 0 rfl rfl (gd_in hg) dX7_look_122 ?_
      refine lv_if_le (tgt := 135) hx hb dX7_look_123 (by decide) (fun c1 => ?_) (fun c1 => ?_)
      · skip
        have hsh := ite_t hsh c1
        refine lv_iconst (v := (-1 : Int32)) hx hb dX7_look_135 (by decide) ?_
        have ho := Option.some.inj hsh
        rw [← ho] at hret
        exact hret _ _ _ _ dX7_look_136 hP hD hS
      · skip
        have hsh := ite_f hsh c1
        refine lv_aload_n hx hb dX7_look_126 rfl (lv_at hl 0 rfl) ?_
        refine kget (ci := 7) S hK hP rfl inX7_look_X7 0 rfl 18 (by decide) lkX7_look_48 rfl dX7_look_127 ?_
        refine lv_iload_n hx hb dX7_look_130 rfl (lv_at hl 1 rfl) ?_
        obtain ⟨_, hg, hsh⟩ := bd hsh
        refine kial S hK hP 4 0 rfl rfl (gd_in hg) dX7_look_131 ?_
        refine lv_goto (tgt := 136) hx hb dX7_look_132 (by decide) ?_
        have ho := Option.some.inj hsh
        rw [← ho] at hret
        exact hret _ _ _ _ dX7_look_136 hP hD hS
    have hsh := ite_f hsh c_4
    by_cases c_5 : a2 = (5 : Int32)
    · have hsh := ite_t hsh c_5
      refine lv_tableIn (tgt := 137) hx hb dX7_look_20 (by rw [c_5]; decide) (by rw [c_5]; decide) (by rw [c_5]; rfl) (by decide) ?_
      refine lv_aload_n hx hb dX7_look_137 rfl (lv_at hl 0 rfl) ?_
      refine kget (ci := 7) S hK hP rfl inX7_look_X7 0 rfl 19 (by decide) lkX7_look_51 rfl dX7_look_138 ?_
      refine lv_iload_n hx hb dX7_look_141 rfl (lv_at hl 1 rfl) ?_
      obtain ⟨_, hg, hsh⟩ := bd hsh
      refine kial S hK hP 5 0 rfl rfl (gd_in hg) dX7_look_142 ?_
      have ho := Option.some.inj hsh
      rw [← ho] at hret
      exact hret _ _ _ _ dX7_look_143 hP hD hS
    have hsh := ite_f hsh c_5
    by_cases c_6 : a2 = (6 : Int32)
    · have hsh := ite_t hsh c_6
      refine lv_tableIn (tgt := 144) hx hb dX7_look_20 (by rw [c_6]; decide) (by rw [c_6]; decide) (by rw [c_6]; rfl) (by decide) ?_
      refine lv_aload_n hx hb dX7_look_144 rfl (lv_at hl 0 rfl) ?_
      refine kget (ci := 7) S hK hP rfl inX7_look_X7 0 rfl 20 (by decide) lkX7_look_54 rfl dX7_look_145 ?_
      refine lv_iload_n hx hb dX7_look_148 rfl (lv_at hl 1 rfl) ?_
      obtain ⟨_, hg, hsh⟩ := bd hsh
      refine kial S hK hP 6 0 rfl rfl (gd_in hg) dX7_look_149 ?_
      have ho := Option.some.inj hsh
      rw [← ho] at hret
      exact hret _ _ _ _ dX7_look_150 hP hD hS
    have hsh := ite_f hsh c_6
    refine lv_tableOut (tgt := 151) hx hb dX7_look_20 (ts_out (n := 6) (by decide) (fun k hk => by rcases (show k = 0 ∨ k = 1 ∨ k = 2 ∨ k = 3 ∨ k = 4 ∨ k = 5 ∨ k = 6 by omega) with rfl | rfl | rfl | rfl | rfl | rfl | rfl <;> assumption)) (by decide) ?_
    refine lv_aload_n hx hb dX7_look_151 rfl (lv_at hl 0 rfl) ?_
    refine lv_iconst (v := (2 : Int32)) hx hb dX7_look_152 (by decide) ?_
    obtain ⟨o_153, he, hsh⟩ := bd hsh
    refine kVi (ci := 7) S hK hA (ctX7_fails l D cI cJ cZ q_this q_tape q_prior q_pipesIn q_pipe q_met q_chance q_rock q_people q_bad q_well q_ends q_runs q_way q_words q_told q_weight q_days q_depth q_bestDepth q_hopes q_planOf q_planDepth v_tapeSize (0 : Int32) v_salt v_dry v_rest v_fault v_faultPlace v_rocks v_villages v_day v_at v_allPipes v_end v_next v_kind v_which v_place v_isPlan v_planMany v_planPipes v_planDays (2 : Int32) o_153 he) noE_cl (cwV 1 hts gX7_look_X7_fails rfl rfl rfl hdX7_fails ⟨Nat.le_of_ble_eq_true rfl, Nat.le_of_ble_eq_true rfl⟩) rfl 0 rfl [0] [1, 2, 3, 4, 5, 6] [6, 0, 1, 2, 3, 4, 5] (ws' := (wdX7_look cI cJ cZ q_this q_tape q_prior q_pipesIn q_pipe q_met q_chance q_rock q_people q_bad q_well q_ends q_runs q_way q_words q_told q_weight q_days q_depth q_bestDepth q_hopes q_planOf q_planDepth v_tapeSize o_153.2 v_salt v_dry v_rest v_fault v_faultPlace v_rocks v_villages v_day v_at v_allPipes v_end v_next v_kind v_which v_place v_isPlan v_planMany v_planPipes v_planDays w_rock w_people w_bad w_well w_ends w_runs)) ⟨rfl, rfl, rfl, rfl, rfl, rfl, rfl⟩ trivial rfl hl.1 rfl (Nat.le_of_ble_eq_true rfl) dX7_look_153 hP hD hS (fun H locs hP hD hS => ?_)
    have ho := Option.some.inj hsh
    rw [← ho] at hret
    exact hret _ _ _ _ dX7_look_156 hP hD hS
  · skip
    have hsh := ite_f hsh (fun h => h c1)
    refine lv_aload_n hx hb dX7_look_13 rfl (lv_at hl 0 rfl) ?_
    refine lv_iconst (v := (1 : Int32)) hx hb dX7_look_14 (by decide) ?_
    obtain ⟨o_15, he, hsh⟩ := bd hsh
    refine kVi (ci := 7) S hK hA (ctX7_fails l D cI cJ cZ q_this q_tape q_prior q_pipesIn q_pipe q_met q_chance q_rock q_people q_bad q_well q_ends q_runs q_way q_words q_told q_weight q_days q_depth q_bestDepth q_hopes q_planOf q_planDepth v_tapeSize (0 : Int32) v_salt v_dry v_rest v_fault v_faultPlace v_rocks v_villages v_day v_at v_allPipes v_end v_next v_kind v_which v_place v_isPlan v_planMany v_planPipes v_planDays (1 : Int32) o_15 he) noE_cl (cwV 1 hts gX7_look_X7_fails rfl rfl rfl hdX7_fails ⟨Nat.le_of_ble_eq_true rfl, Nat.le_of_ble_eq_true rfl⟩) rfl 0 rfl [0] [1, 2, 3, 4, 5, 6] [6, 0, 1, 2, 3, 4, 5] (ws' := (wdX7_look cI cJ cZ q_this q_tape q_prior q_pipesIn q_pipe q_met q_chance q_rock q_people q_bad q_well q_ends q_runs q_way q_words q_told q_weight q_days q_depth q_bestDepth q_hopes q_planOf q_planDepth v_tapeSize o_15.2 v_salt v_dry v_rest v_fault v_faultPlace v_rocks v_villages v_day v_at v_allPipes v_end v_next v_kind v_which v_place v_isPlan v_planMany v_planPipes v_planDays w_rock w_people w_bad w_well w_ends w_runs)) ⟨rfl, rfl, rfl, rfl, rfl, rfl, rfl⟩ trivial rfl hl.1 rfl (Nat.le_of_ble_eq_true rfl) dX7_look_15 hP hD hS (fun H locs hP hD hS => ?_)
    have ho := Option.some.inj hsh
    rw [← ho] at hret
    exact hret _ _ _ _ dX7_look_18 hP hD hS

/-! DryWellsModel.count -/
noncomputable def shX7_count_j_106 (x2_j_106 : Int32) (v_thrown_j_106 : Int32) : Option (Int32 × Int32) :=
  some (x2_j_106, v_thrown_j_106)
noncomputable def shX7_count_k70_98 (x3_70 : Int32) (s0_k70_98 : Int32) (s1_k70_98 : Int32) : Option ((Int32 × Int32) ⊕ ((Int32))) :=
  some (Sum.inl ((s0_k70_98 + s1_k70_98), (x3_70 + (1 : Int32))))
noncomputable def shX7_count_L70 (v_villages : Int32) (w_people : Nat → Int32) (w_well : Nat → Int32) (x2_70 : Int32) (x3_70 : Int32) : Option ((Int32 × Int32) ⊕ ((Int32))) :=
  (if v_villages < x3_70 then some (Sum.inr x2_70) else ((gd x3_70 8).bind fun _ => (if (w_well (x3_70).toNatClampNeg) ≤ 0 then (shX7_count_k70_98 x3_70 x2_70 (0 : Int32)) else ((gd x3_70 8).bind fun _ => (shX7_count_k70_98 x3_70 x2_70 (w_people (x3_70).toNatClampNeg))))))
noncomputable def shX7_count (a1 : Int32) (v_thrown : Int32) (v_rocks : Int32) (v_villages : Int32) (v_day : Int32) (v_at : Int32) (v_allPipes : Int32) (w_people : Nat → Int32) (w_well : Nat → Int32) : Option (Int32 × Int32) :=
  (if a1 = (0 : Int32) then some (v_rocks, (0 : Int32)) else (if a1 = (1 : Int32) then some (v_villages, (0 : Int32)) else (if a1 = (2 : Int32) then some (v_day, (0 : Int32)) else (if a1 = (3 : Int32) then some (v_at, (0 : Int32)) else (if a1 = (4 : Int32) then ((lp (fun s : Int32 × Int32 => shX7_count_L70 v_villages w_people w_well s.1 s.2) ((0 : Int32), (1 : Int32))).bind (fun p : Int32 => shX7_count_j_106 p (0 : Int32))) else (if a1 = (5 : Int32) then some (v_allPipes, (0 : Int32)) else some ((-1 : Int32), (0 : Int32))))))))
def wdX7_count (cI cJ cZ : ClassId) (q_this q_tape q_prior q_pipesIn q_pipe q_met q_chance q_rock q_people q_bad q_well q_ends q_runs q_way q_words q_told q_weight q_days q_depth q_bestDepth q_hopes q_planOf q_planDepth : Nat) (v_tapeSize : Int32) (v_thrown : Int32) (v_salt : Int32) (v_dry : Int32) (v_rest : Int32) (v_fault : Int32) (v_faultPlace : Int32) (v_rocks : Int32) (v_villages : Int32) (v_day : Int32) (v_at : Int32) (v_allPipes : Int32) (v_end : Int32) (v_next : Int32) (v_kind : Int32) (v_which : Int32) (v_place : Int32) (v_isPlan : Int32) (v_planMany : Int32) (v_planPipes : Int32) (v_planDays : Int32) (w_people : Nat → Int32) (w_well : Nat → Int32) : va_W := [(q_this, .inr (7, [.ref q_tape, .int v_tapeSize, .int v_thrown, .int v_salt, .int v_dry, .int v_rest, .int v_fault, .int v_faultPlace, .int v_rocks, .ref q_prior, .ref q_pipesIn, .ref q_pipe, .ref q_met, .ref q_chance, .int v_villages, .ref q_rock, .ref q_people, .ref q_bad, .ref q_well, .ref q_ends, .ref q_runs, .ref q_way, .int v_day, .int v_at, .int v_allPipes, .ref q_words, .int v_end, .int v_next, .int v_kind, .int v_which, .int v_place, .ref q_told, .ref q_weight, .ref q_days, .ref q_depth, .ref q_bestDepth, .ref q_hopes, .int v_isPlan, .int v_planMany, .int v_planPipes, .int v_planDays, .ref q_planOf, .ref q_planDepth])), (q_people, .inl (cI, 8, .inl w_people)), (q_well, .inl (cI, 8, .inl w_well))]
abbrev rmX7_count : Room := { frames := 0, cells := 0, slots := 0, locals := 0 }
theorem inX7_count_X7 : ∀ w ∈ u_ws RX7 TX7 43, w ∈ wsX7_count := fun _ h => List.mem_cons_of_mem _ (List.mem_append_right _ h)
theorem lkX7_count_88 : Cond.fieldLink RX7 88 (TX7 2).1 (TX7 2).2.1 (TX7 2).2.2.1 ∈ wsX7_count := List.mem_of_getElem? (i := 1) rfl
theorem lkX7_count_137 : Cond.fieldLink RX7 137 (TX7 8).1 (TX7 8).2.1 (TX7 8).2.2.1 ∈ wsX7_count := List.mem_of_getElem? (i := 2) rfl
theorem lkX7_count_143 : Cond.fieldLink RX7 143 (TX7 14).1 (TX7 14).2.1 (TX7 14).2.2.1 ∈ wsX7_count := List.mem_of_getElem? (i := 3) rfl
theorem lkX7_count_149 : Cond.fieldLink RX7 149 (TX7 22).1 (TX7 22).2.1 (TX7 22).2.2.1 ∈ wsX7_count := List.mem_of_getElem? (i := 4) rfl
theorem lkX7_count_146 : Cond.fieldLink RX7 146 (TX7 23).1 (TX7 23).2.1 (TX7 23).2.2.1 ∈ wsX7_count := List.mem_of_getElem? (i := 5) rfl
theorem lkX7_count_48 : Cond.fieldLink RX7 48 (TX7 18).1 (TX7 18).2.1 (TX7 18).2.2.1 ∈ wsX7_count := List.mem_of_getElem? (i := 6) rfl
theorem lkX7_count_42 : Cond.fieldLink RX7 42 (TX7 16).1 (TX7 16).2.1 (TX7 16).2.2.1 ∈ wsX7_count := List.mem_of_getElem? (i := 7) rfl
theorem lkX7_count_152 : Cond.fieldLink RX7 152 (TX7 24).1 (TX7 24).2.1 (TX7 24).2.2.1 ∈ wsX7_count := List.mem_of_getElem? (i := 8) rfl
theorem hdX7_count : yX7_count.cls = RX7 ∧ yX7_count.cls ≠ "java/lang/invoke/MethodHandle" ∧ yX7_count.cls ≠ "java/lang/invoke/VarHandle" ∧ (parseMethodDescriptor yX7_count.desc).map (fun d => d.parameters.length) = some 1 := by decide +kernel
set_option maxHeartbeats 4000000 in
set_option maxRecDepth 100000 in
theorem ctX7_count (l : Launch) (D : va_G) (cI cJ cZ : ClassId) (q_this q_tape q_prior q_pipesIn q_pipe q_met q_chance q_rock q_people q_bad q_well q_ends q_runs q_way q_words q_told q_weight q_days q_depth q_bestDepth q_hopes q_planOf q_planDepth : Nat) (v_tapeSize : Int32) (v_thrown : Int32) (v_salt : Int32) (v_dry : Int32) (v_rest : Int32) (v_fault : Int32) (v_faultPlace : Int32) (v_rocks : Int32) (v_villages : Int32) (v_day : Int32) (v_at : Int32) (v_allPipes : Int32) (v_end : Int32) (v_next : Int32) (v_kind : Int32) (v_which : Int32) (v_place : Int32) (v_isPlan : Int32) (v_planMany : Int32) (v_planPipes : Int32) (v_planDays : Int32) (w_people : Nat → Int32) (w_well : Nat → Int32) (a1 : Int32) (o : Int32 × Int32) (hsh : shX7_count a1 v_thrown v_rocks v_villages v_day v_at v_allPipes w_people w_well = some o) : CtI l yX7_count wsX7_count rmX7_count D (tys3 cI cJ cZ) noE (wdX7_count cI cJ cZ q_this q_tape q_prior q_pipesIn q_pipe q_met q_chance q_rock q_people q_bad q_well q_ends q_runs q_way q_words q_told q_weight q_days q_depth q_bestDepth q_hopes q_planOf q_planDepth v_tapeSize v_thrown v_salt v_dry v_rest v_fault v_faultPlace v_rocks v_villages v_day v_at v_allPipes v_end v_next v_kind v_which v_place v_isPlan v_planMany v_planPipes v_planDays w_people w_well) [.ref q_this, .int a1] o.1 (wdX7_count cI cJ cZ q_this q_tape q_prior q_pipesIn q_pipe q_met q_chance q_rock q_people q_bad q_well q_ends q_runs q_way q_words q_told q_weight q_days q_depth q_bestDepth q_hopes q_planOf q_planDepth v_tapeSize o.2 v_salt v_dry v_rest v_fault v_faultPlace v_rocks v_villages v_day v_at v_allPipes v_end v_next v_kind v_which v_place v_isPlan v_planMany v_planPipes v_planDays w_people w_well) := by
  refine ctI plX7 rfl (Nat.le_of_ble_eq_true rfl) ?_
  intro p e s m below meth c A Q S hK hA hE hret H locs hP hD hS ls hl
  replace S : CallFix p m c cX7_count 4 s _ wsX7_count RX7 := S
  generalize ([.ref q_this, .int a1] : List Value).toArray = args at S hret ⊢
  obtain ⟨hx, hb, hml, hown, hts⟩ := id S
  replace hl : lv_has ls 4 [(0, .ref q_this), (1, .int a1)] := hl
  unfold shX7_count at hsh
  have Jj_106 : ∀ (x2_j_106 : Int32) (v_thrown_j_106 : Int32) (H : Heap) (locs : List Loc), va_P D vwCl (wdX7_count cI cJ cZ q_this q_tape q_prior q_pipesIn q_pipe q_met q_chance q_rock q_people q_bad q_well q_ends q_runs q_way q_words q_told q_weight q_days q_depth q_bestDepth q_hopes q_planOf q_planDepth v_tapeSize v_thrown_j_106 v_salt v_dry v_rest v_fault v_faultPlace v_rocks v_villages v_day v_at v_allPipes v_end v_next v_kind v_which v_place v_isPlan v_planMany v_planPipes v_planDays w_people w_well) H → va_D A (wdX7_count cI cJ cZ q_this q_tape q_prior q_pipesIn q_pipe q_met q_chance q_rock q_people q_bad q_well q_ends q_runs q_way q_words q_told q_weight q_days q_depth q_bestDepth q_hopes q_planOf q_planDepth v_tapeSize v_thrown_j_106 v_salt v_dry v_rest v_fault v_faultPlace v_rocks v_villages v_day v_at v_allPipes v_end v_next v_kind v_which v_place v_isPlan v_planMany v_planPipes v_planDays w_people w_well) → va_S A s.heap H locs → ∀ ls : Array Slot, lv_has ls 4 [(2, .int x2_j_106)] → shX7_count_j_106 x2_j_106 v_thrown_j_106 = some o → W p l e rmX7_count s m args below meth c H locs 0 0 Q (F0 m 106 ls []) := by
    intro x2_j_106 v_thrown_j_106 H locs hP hD hS ls hl hsh
    unfold shX7_count_j_106 at hsh
    refine lv_iload_n hx hb dX7_count_106 rfl (lv_at hl 0 rfl) ?_
    have ho := Option.some.inj hsh
    rw [← ho] at hret
    exact hret _ _ _ _ dX7_count_107 hP hD hS
  refine lv_aload_n hx hb dX7_count_0 rfl (lv_at hl 0 rfl) ?_
  refine lv_iconst (v := (0 : Int32)) hx hb dX7_count_1 (by decide) ?_
  refine kput (ci := 7) S hK hP hD hS rfl inX7_count_X7 tyX7_ok nmX7 0 rfl 2 (by decide) lkX7_count_88 rfl rfl rfl (Nat.le_of_ble_eq_true rfl) (ws' := (wdX7_count cI cJ cZ q_this q_tape q_prior q_pipesIn q_pipe q_met q_chance q_rock q_people q_bad q_well q_ends q_runs q_way q_words q_told q_weight q_days q_depth q_bestDepth q_hopes q_planOf q_planDepth v_tapeSize (0 : Int32) v_salt v_dry v_rest v_fault v_faultPlace v_rocks v_villages v_day v_at v_allPipes v_end v_next v_kind v_which v_place v_isPlan v_planMany v_planPipes v_planDays w_people w_well)) rfl dX7_count_2 (fun H locs hP hD hS => ?_)
  refine lv_iconst (v := (0 : Int32)) hx hb dX7_count_5 (by decide) ?_
  refine lv_istore_n (lv' := [(2, .int (0 : Int32)), (0, .ref q_this), (1, .int a1)]) hx hb dX7_count_6 rfl hl (by decide) rfl (fun ls hl => ?_)
  refine lv_iload_n hx hb dX7_count_7 rfl (lv_at hl 2 rfl) ?_
  by_cases c_0 : a1 = (0 : Int32)
  · have hsh := ite_t hsh c_0
    refine lv_tableIn (tgt := 48) hx hb dX7_count_8 (by rw [c_0]; decide) (by rw [c_0]; decide) (by rw [c_0]; rfl) (by decide) ?_
    refine lv_aload_n hx hb dX7_count_48 rfl (lv_at hl 1 rfl) ?_
    refine kget (ci := 7) S hK hP rfl inX7_count_X7 0 rfl 8 (by decide) lkX7_count_137 rfl dX7_count_49 ?_
    have ho := Option.some.inj hsh
    rw [← ho] at hret
    exact hret _ _ _ _ dX7_count_52 hP hD hS
  have hsh := ite_f hsh c_0
  by_cases c_1 : a1 = (1 : Int32)
  · have hsh := ite_t hsh c_1
    refine lv_tableIn (tgt := 53) hx hb dX7_count_8 (by rw [c_1]; decide) (by rw [c_1]; decide) (by rw [c_1]; rfl) (by decide) ?_
    refine lv_aload_n hx hb dX7_count_53 rfl (lv_at hl 1 rfl) ?_
    refine kget (ci := 7) S hK hP rfl inX7_count_X7 0 rfl 14 (by decide) lkX7_count_143 rfl dX7_count_54 ?_
    have ho := Option.some.inj hsh
    rw [← ho] at hret
    exact hret _ _ _ _ dX7_count_57 hP hD hS
  have hsh := ite_f hsh c_1
  by_cases c_2 : a1 = (2 : Int32)
  · have hsh := ite_t hsh c_2
    refine lv_tableIn (tgt := 58) hx hb dX7_count_8 (by rw [c_2]; decide) (by rw [c_2]; decide) (by rw [c_2]; rfl) (by decide) ?_
    refine lv_aload_n hx hb dX7_count_58 rfl (lv_at hl 1 rfl) ?_
    refine kget (ci := 7) S hK hP rfl inX7_count_X7 0 rfl 22 (by decide) lkX7_count_149 rfl dX7_count_59 ?_
    have ho := Option.some.inj hsh
    rw [← ho] at hret
    exact hret _ _ _ _ dX7_count_62 hP hD hS
  have hsh := ite_f hsh c_2
  by_cases c_3 : a1 = (3 : Int32)
  · have hsh := ite_t hsh c_3
    refine lv_tableIn (tgt := 63) hx hb dX7_count_8 (by rw [c_3]; decide) (by rw [c_3]; decide) (by rw [c_3]; rfl) (by decide) ?_
    refine lv_aload_n hx hb dX7_count_63 rfl (lv_at hl 1 rfl) ?_
    refine kget (ci := 7) S hK hP rfl inX7_count_X7 0 rfl 23 (by decide) lkX7_count_146 rfl dX7_count_64 ?_
    have ho := Option.some.inj hsh
    rw [← ho] at hret
    exact hret _ _ _ _ dX7_count_67 hP hD hS
  have hsh := ite_f hsh c_3
  by_cases c_4 : a1 = (4 : Int32)
  · have hsh := ite_t hsh c_4
    refine lv_tableIn (tgt := 68) hx hb dX7_count_8 (by rw [c_4]; decide) (by rw [c_4]; decide) (by rw [c_4]; rfl) (by decide) ?_
    refine lv_iconst (v := (1 : Int32)) hx hb dX7_count_68 (by decide) ?_
    refine lv_istore_n (lv' := [(3, .int (1 : Int32)), (2, .int (0 : Int32)), (0, .ref q_this), (1, .int a1)]) hx hb dX7_count_69 rfl hl (by decide) rfl (fun ls hl => ?_)
    obtain ⟨r_70, hl_70, hk_70⟩ := bd hsh
    obtain ⟨n_70, hn_70⟩ := lp_iff.mp hl_70
    have L_70 : ∀ (n : Nat) (x2_70 : Int32) (x3_70 : Int32) (H : Heap) (locs : List Loc), va_P D vwCl (wdX7_count cI cJ cZ q_this q_tape q_prior q_pipesIn q_pipe q_met q_chance q_rock q_people q_bad q_well q_ends q_runs q_way q_words q_told q_weight q_days q_depth q_bestDepth q_hopes q_planOf q_planDepth v_tapeSize (0 : Int32) v_salt v_dry v_rest v_fault v_faultPlace v_rocks v_villages v_day v_at v_allPipes v_end v_next v_kind v_which v_place v_isPlan v_planMany v_planPipes v_planDays w_people w_well) H → va_D A (wdX7_count cI cJ cZ q_this q_tape q_prior q_pipesIn q_pipe q_met q_chance q_rock q_people q_bad q_well q_ends q_runs q_way q_words q_told q_weight q_days q_depth q_bestDepth q_hopes q_planOf q_planDepth v_tapeSize (0 : Int32) v_salt v_dry v_rest v_fault v_faultPlace v_rocks v_villages v_day v_at v_allPipes v_end v_next v_kind v_which v_place v_isPlan v_planMany v_planPipes v_planDays w_people w_well) → va_S A s.heap H locs → ∀ ls : Array Slot, lv_has ls 4 [(0, .ref q_this), (2, .int x2_70), (3, .int x3_70)] → it (fun s : Int32 × Int32 => shX7_count_L70 v_villages w_people w_well s.1 s.2) n (x2_70, x3_70) = some r_70 → W p l e rmX7_count s m args below meth c H locs 0 0 Q (F0 m 70 ls []) := by
      intro n
      induction n with
      | zero => exact fun _ _ _ _ _ _ _ _ _ hi => it_0 hi
      | succ n ih_70 =>
        intro x2_70 x3_70 H locs hP hD hS ls hl hi
        obtain ⟨b_70, hsh, hB1_70, hB2_70⟩ := it_b hi
        replace hsh : shX7_count_L70 v_villages w_people w_well x2_70 x3_70 = some b_70 := hsh
        unfold shX7_count_L70 at hsh
        have Jk70_98 : ∀ (s0_k70_98 : Int32) (s1_k70_98 : Int32) (H : Heap) (locs : List Loc), va_P D vwCl (wdX7_count cI cJ cZ q_this q_tape q_prior q_pipesIn q_pipe q_met q_chance q_rock q_people q_bad q_well q_ends q_runs q_way q_words q_told q_weight q_days q_depth q_bestDepth q_hopes q_planOf q_planDepth v_tapeSize (0 : Int32) v_salt v_dry v_rest v_fault v_faultPlace v_rocks v_villages v_day v_at v_allPipes v_end v_next v_kind v_which v_place v_isPlan v_planMany v_planPipes v_planDays w_people w_well) H → va_D A (wdX7_count cI cJ cZ q_this q_tape q_prior q_pipesIn q_pipe q_met q_chance q_rock q_people q_bad q_well q_ends q_runs q_way q_words q_told q_weight q_days q_depth q_bestDepth q_hopes q_planOf q_planDepth v_tapeSize (0 : Int32) v_salt v_dry v_rest v_fault v_faultPlace v_rocks v_villages v_day v_at v_allPipes v_end v_next v_kind v_which v_place v_isPlan v_planMany v_planPipes v_planDays w_people w_well) → va_S A s.heap H locs → ∀ ls : Array Slot, lv_has ls 4 [(0, .ref q_this), (3, .int x3_70)] → shX7_count_k70_98 x3_70 s0_k70_98 s1_k70_98 = some b_70 → W p l e rmX7_count s m args below meth c H locs 0 0 Q (F0 m 98 ls [.int s1_k70_98, .int s0_k70_98]) := by
          intro s0_k70_98 s1_k70_98 H locs hP hD hS ls hl hsh
          unfold shX7_count_k70_98 at hsh
          refine lv_iadd hx hb dX7_count_98 ?_
          refine lv_istore_n (lv' := [(2, .int (s0_k70_98 + s1_k70_98)), (0, .ref q_this), (3, .int x3_70)]) hx hb dX7_count_99 rfl hl (by decide) rfl (fun ls hl => ?_)
          refine lv_iinc (v := (x3_70 + (1 : Int32))) (lv' := [(3, .int (x3_70 + (1 : Int32))), (2, .int (s0_k70_98 + s1_k70_98)), (0, .ref q_this)]) hx hb dX7_count_100 hl (k := 2) rfl (congrArg (fun z : Int32 => x3_70 + z) (by decide)) (by decide) rfl (fun ls hl => ?_)
          refine lv_goto (tgt := 70) hx hb dX7_count_103 (by decide) ?_
          exact ih_70 (s0_k70_98 + s1_k70_98) (x3_70 + (1 : Int32)) H locs hP hD hS ls (lv_sub hl [2, 1, 0] rfl) (hB1_70 _ hsh)
        refine lv_iload_n hx hb dX7_count_70 rfl (lv_at hl 2 rfl) ?_
        refine lv_aload_n hx hb dX7_count_71 rfl (lv_at hl 0 rfl) ?_
        refine kget (ci := 7) S hK hP rfl inX7_count_X7 0 rfl 14 (by decide) lkX7_count_143 rfl dX7_count_72 ?_
        refine lv_icmp_gt (tgt := 106) hx hb dX7_count_75 (by decide) (fun c1 => ?_) (fun c1 => ?_)
        · skip
          have hsh := ite_t hsh c1
          have he := hB2_70 _ hsh
          rw [← he] at hk_70
          exact Jj_106 x2_70 (0 : Int32) H locs hP hD hS ls (lv_sub hl [1] rfl) hk_70
        · skip
          have hsh := ite_f hsh c1
          refine lv_iload_n hx hb dX7_count_78 rfl (lv_at hl 1 rfl) ?_
          refine lv_aload_n hx hb dX7_count_79 rfl (lv_at hl 0 rfl) ?_
          refine kget (ci := 7) S hK hP rfl inX7_count_X7 0 rfl 18 (by decide) lkX7_count_48 rfl dX7_count_80 ?_
          refine lv_iload_n hx hb dX7_count_83 rfl (lv_at hl 2 rfl) ?_
          obtain ⟨_, hg, hsh⟩ := bd hsh
          refine kial S hK hP 2 0 rfl rfl (gd_in hg) dX7_count_84 ?_
          refine lv_if_le (tgt := 97) hx hb dX7_count_85 (by decide) (fun c1 => ?_) (fun c1 => ?_)
          · skip
            have hsh := ite_t hsh c1
            refine lv_iconst (v := (0 : Int32)) hx hb dX7_count_97 (by decide) ?_
            exact Jk70_98 x2_70 (0 : Int32) H locs hP hD hS ls (lv_sub hl [0, 2] rfl) hsh
          · skip
            have hsh := ite_f hsh c1
            refine lv_aload_n hx hb dX7_count_88 rfl (lv_at hl 0 rfl) ?_
            refine kget (ci := 7) S hK hP rfl inX7_count_X7 0 rfl 16 (by decide) lkX7_count_42 rfl dX7_count_89 ?_
            refine lv_iload_n hx hb dX7_count_92 rfl (lv_at hl 2 rfl) ?_
            obtain ⟨_, hg, hsh⟩ := bd hsh
            refine kial S hK hP 1 0 rfl rfl (gd_in hg) dX7_count_93 ?_
            refine lv_goto (tgt := 98) hx hb dX7_count_94 (by decide) ?_
            exact Jk70_98 x2_70 (w_people (x3_70).toNatClampNeg) H locs hP hD hS ls (lv_sub hl [0, 2] rfl) hsh
    exact L_70 n_70 (0 : Int32) (1 : Int32) H locs hP hD hS ls (lv_sub hl [2, 1, 0] rfl) hn_70
  have hsh := ite_f hsh c_4
  by_cases c_5 : a1 = (5 : Int32)
  · have hsh := ite_t hsh c_5
    refine lv_tableIn (tgt := 108) hx hb dX7_count_8 (by rw [c_5]; decide) (by rw [c_5]; decide) (by rw [c_5]; rfl) (by decide) ?_
    refine lv_aload_n hx hb dX7_count_108 rfl (lv_at hl 1 rfl) ?_
    refine kget (ci := 7) S hK hP rfl inX7_count_X7 0 rfl 24 (by decide) lkX7_count_152 rfl dX7_count_109 ?_
    have ho := Option.some.inj hsh
    rw [← ho] at hret
    exact hret _ _ _ _ dX7_count_112 hP hD hS
  have hsh := ite_f hsh c_5
  refine lv_tableOut (tgt := 113) hx hb dX7_count_8 (ts_out (n := 5) (by decide) (fun k hk => by rcases (show k = 0 ∨ k = 1 ∨ k = 2 ∨ k = 3 ∨ k = 4 ∨ k = 5 by omega) with rfl | rfl | rfl | rfl | rfl | rfl <;> assumption)) (by decide) ?_
  refine lv_iconst (v := (-1 : Int32)) hx hb dX7_count_113 (by decide) ?_
  have ho := Option.some.inj hsh
  rw [← ho] at hret
  exact hret _ _ _ _ dX7_count_114 hP hD hS
