/-! the law's own look: it catches what look throws -/
theorem lx_noX {l : Launch} {y : MethodName} {ws : List Cond} {rm : Room} {Pc : Array Value → State → Prop} {Qc : Array Value → State → Outcome → State → Prop} {mc ms : Nat} {free : Addr → Prop} (h : vx_Met l y ws rm Pc Qc (fun _ _ _ => False) mc ms free) : Met l y ws rm Pc Qc mc ms free := by
  intro p e ha hc hk s m args below hf happ hP hK
  obtain ⟨k, o, h1, h2, h3, hQ⟩ := h p e ha hc hk s m args below hf happ hP hK
  refine ⟨k, o, h1, h2, h3, ?_⟩
  rcases hQ with hq | ⟨q, -, E, ce, L, hx, -⟩
  · exact hq
  · exact hx.elim
def wdL_look (cI cJ cZ : ClassId) (q_this q_tape q_book q_rocks q_villages q_ways q_planner q_book_numbers q_book_fresh q_book_told q_villages_rocks q_villages_people q_villages_badHoles q_villages_wellPipes q_villages_endAges q_villages_runAges q_out : Nat) (v_rigPlace v_day v_book_faultKind v_book_faultPlace v_book_at v_book_end v_villages_size : Int32) (w_book_numbers w_villages_rocks w_villages_people w_villages_badHoles w_villages_wellPipes w_villages_endAges w_villages_runAges : Nat → Int32) (w_out : Nat → Int64) : va_W :=
  wdX6_look cI cJ cZ q_this q_tape q_book q_rocks q_villages q_ways q_planner q_book_numbers q_book_fresh q_book_told q_villages_rocks q_villages_people q_villages_badHoles q_villages_wellPipes q_villages_endAges q_villages_runAges v_rigPlace v_day v_book_faultKind v_book_faultPlace v_book_at v_book_end v_villages_size w_book_numbers w_villages_rocks w_villages_people w_villages_badHoles w_villages_wellPipes w_villages_endAges w_villages_runAges ++ [(q_out, .inl (cJ, 1, .inr (.inl w_out)))]
/-- what the law's look answers, and what it lays into its row -/
def lkR : Int32 ⊕ Nat → Int32
  | .inl _ => 0
  | .inr 1 => 1
  | .inr _ => 2
def lkO (f : Nat → Int64) : Int32 ⊕ Nat → Nat → Int64
  | .inl r => vp_updL f (0 : Int32).toNatClampNeg r.toInt64
  | .inr _ => f
theorem hdX6_look9 : yX6_look.cls = RX6 ∧ yX6_look.cls ≠ "java/lang/invoke/MethodHandle" ∧ yX6_look.cls ≠ "java/lang/invoke/VarHandle" ∧ (parseMethodDescriptor yX6_look.desc).map (fun d => d.parameters.length) = some 2 := by decide +kernel
theorem plL : plainName RL = true := by decide +kernel
abbrev rmL_look : Room := { frames := 7, cells := 1, slots := 6, locals := 112 }
theorem lx_cov : covers (ExceptionTableEntry.mk 0 10 13 13) 5 = true ∧ covers (ExceptionTableEntry.mk 0 10 17 15) 5 = true := by decide
set_option maxHeartbeats 4000000 in
set_option maxRecDepth 100000 in
theorem ctL_look {l : Launch} (hst : l.stackTraces = false) {D : va_G} {cI cJ cZ : ClassId} {ws : va_W} {q_this q_out k0 : Nat} {fs : List Value} {a1 a2 : Int32} {o : Int32 ⊕ Nat} (sa1 sa2 : Nat) (w_out : Nat → Int64) (hlen : ws.length = 10) (h0 : ws[0]? = some (q_this, .inr (6, fs))) (core : BdX l D (tys3 cI cJ cZ) rmX6_look ws [.ref q_this, .int a1, .int a2] o) (ho : (∃ r : Int32, o = Sum.inl r) ∨ o = Sum.inr 1 ∨ o = Sum.inr 2) :
    ∀ sz : Nat, Met l yL_look wsL_look rmL_look (va_Pc [.ref q_this, .int a1, .int a2, .ref q_out] (kPre D (tys3 cI cJ cZ) (EnL sa1 sa2) (ws ++ [(q_out, .inl (cJ, 1, .inr (.inl w_out)))]) sz)) (va_Qi (fun (x : Int32) (_ : Unit) => x = lkR o) (kPost D (tys3 cI cJ cZ) (va_A (ws ++ [(q_out, .inl (cJ, 1, .inr (.inl w_out)))]) sz) (ws ++ [(q_out, .inl (cJ, 1, .inr (.inl (lkO w_out o))))])) (va_A (ws ++ [(q_out, .inl (cJ, 1, .inr (.inl w_out)))]) sz)) 1 6 (va_A (ws ++ [(q_out, .inl (cJ, 1, .inr (.inl w_out)))]) sz) := by
  intro sz
  refine lx_noX ?_
  refine vx_ofWH (cc := cL_look) (maxL := 5) (ret := some .int) plL rfl ?_
  intro p e s m args below meth c s₁ B hml hv
  obtain ⟨rfl, hsz, hP, hK, hD0, hE⟩ := hv
  have hts := atoms_spec (ws := wsL_look) B.pre
  have hown : s.vm.findClass RL = some m.cls := findClass_of_methodNamed B.named
  have htab := vx_table (x := yL_look) B (hts _ List.mem_cons_self)
  have hlocks := B.notSynchronized
  subst hsz
  have hD := hD0.self (sz := s.heap.size)
  have hA : ∀ q : Nat, s.heap.size ≤ q → va_A (ws ++ [(q_out, .inl (cJ, 1, .inr (.inl w_out)))]) s.heap.size q := fun q h => Or.inr h
  have hS : va_S (va_A (ws ++ [(q_out, .inl (cJ, 1, .inr (.inl w_out)))]) s.heap.size) s.heap s.heap [] := va_S.rf
  have hl := lv_entry ([.ref q_this, .int a1, .int a2, .ref q_out]) (n := 5) (Nat.le_of_ble_eq_true rfl)
  rw [lg_entry_eq]
  generalize hAe : va_A (ws ++ [(q_out, .inl (cJ, 1, .inr (.inl w_out)))]) s.heap.size = A at hD hA hS hE ⊢
  generalize (lg_sl ([.ref q_this, .int a1, .int a2, .ref q_out]) ++ List.replicate (5 - (lg_sl ([.ref q_this, .int a1, .int a2, .ref q_out])).length) Slot.unset).toArray = ls at hl ⊢
  generalize ([.ref q_this, .int a1, .int a2, .ref q_out] : List Value).toArray = args at hts B htab ⊢
  replace hl : lv_has ls 5 [(0, .ref q_this), (1, .int a1), (2, .int a2), (3, .ref q_out)] := hl
  have hx := B.exec
  have hb := B.bytes
  have hr := B.returns
  have S : CallFix p m c cL_look 5 s args wsL_look RL := ⟨hx, hb, hml, hown, hts⟩
  obtain ⟨H, hH⟩ : ∃ H, H = s.heap := ⟨_, rfl⟩
  refine lv_aload_n hx hb dL_look_0 rfl (lv_at hl 3 rfl) ?_
  refine lv_iconst (v := 0) hx hb dL_look_1 (by decide) ?_
  refine lv_aload_n hx hb dL_look_2 rfl (lv_at hl 0 rfl) ?_
  refine lv_iload_n hx hb dL_look_3 rfl (lv_at hl 1 rfl) ?_
  refine lv_iload_n hx hb dL_look_4 rfl (lv_at hl 2 rfl) ?_
  have hsub : [0, 1, 2, 3, 4, 5, 6, 7, 8, 9].map (fun i => (ws ++ [(q_out, (.inl (cJ, 1, .inr (.inl w_out)) : va_E))])[i]?) = ws.map some := by
    match ws, hlen with
    | [b0, b1, b2, b3, b4, b5, b6, b7, b8, b9], _ => rfl
  have hPc := va_Pm hP [0, 1, 2, 3, 4, 5, 6, 7, 8, 9] hsub
  have hDc := hD.sub [0, 1, 2, 3, 4, 5, 6, 7, 8, 9] (by decide) hsub
  have hFc := va_free (wc := ws) hD hS hA [0, 1, 2, 3, 4, 5, 6, 7, 8, 9] hsub
  have hcut : Cut (ws ++ [(q_out, (.inl (cJ, 1, .inr (.inl w_out)) : va_E))]) ws ws (ws ++ [(q_out, (.inl (cJ, 1, .inr (.inl w_out)) : va_E))]) [0, 1, 2, 3, 4, 5, 6, 7, 8, 9] [10] [1, 2, 3, 4, 5, 6, 7, 8, 9, 10, 0] := by
    match ws, hlen with
    | [b0, b1, b2, b3, b4, b5, b6, b7, b8, b9], _ => exact ⟨rfl, rfl, rfl, rfl, rfl, rfl, rfl⟩
  refine vx_calli (vx_runV (As := [.int a1, .int a2]) (rest := [.int 0, .ref q_out]) S (lx_met hst sa1 sa2 (Nat.le_of_ble_eq_true rfl) core s.heap.size) (cwV 2 hts gL_look_X6_look rfl rfl rfl hdX6_look9 ⟨Nat.le_of_ble_eq_true rfl, Nat.le_of_ble_eq_true rfl⟩) ⟨kPre_blind EnL_cl, va_recv hK hPc (ci := 6) rfl h0, fun U hU hW => ⟨rfl, by rw [hU], by rw [hU]; exact hPc, va_K.moved hW.alike hK, hDc.weaken (fun _ _ _ _ => trivial), by rw [hU]; exact EnL_cl.2.1 _ s U _ hW (EnL_cl.2.2.2 _ _ _ _ (EnL_cl.2.2.1 _ _ _ _ hE hS.2.1) hFc)⟩⟩ rfl rfl hl.1 rfl (lv_room (Nat.le_of_ble_eq_true rfl)) dL_look_5 ⟨Nat.le_of_ble_eq_true rfl, Nat.le_of_ble_eq_true rfl⟩) hS (fun q _ h => hFc q h) hFc (fun q _ h => hFc q h) (fun E ce q9 u t H1 locs1 ht hal _ hB hz hk1 hS1 hce hcv hcl => ?_) (fun r u t H1 locs1 ht hvm hw hB hz1 hk1 hS1 => ?_)
  · obtain ⟨hor, hP1, -, hD1⟩ := hB
    rw [ht] at hP1
    obtain ⟨hP2, hD2⟩ := hcut.join hP hD hFc hk1 hP1 hD1
    rcases hor with ⟨he, rfl⟩ | ⟨he, rfl⟩
    · subst he
      refine vx_catch (own := RL) (name := iN) (E := iN) hown [] (ExceptionTableEntry.mk 0 10 13 13) [ExceptionTableEntry.mk 0 10 17 15] (by rw [htab]; rfl) (fun z hz => nomatch hz) lx_cov.1 (by decide) (hts _ (List.mem_of_getElem? (i := 1) rfl)) (va_Nw.use rfl hE.2.2.1.1) hce hcv hcl ?_
      refine lv_astore (lv' := [(4, .ref q9), (0, .ref q_this), (1, .int a1), (2, .int a2), (3, .ref q_out)]) hx hb dL_look_13 hl (by decide) rfl (fun ls hl => ?_)
      refine lv_iconst (v := 1) hx hb dL_look_15 (by decide) ?_
      exact vx_ret (W.iret (v := 1) hx hb hr (fun t ht hW => ⟨⟨1, (), rfl, rfl, by rw [ht]; exact hP2, va_K.moved hW.alike hK, hD2⟩, hS1.F ht⟩) (hS1.2.2) dL_look_16 hlocks)
    · subst he
      refine vx_catch (own := RL) (name := nN) (E := nN) hown [ExceptionTableEntry.mk 0 10 13 13] (ExceptionTableEntry.mk 0 10 17 15) [] (by rw [htab]; rfl) (fun z hz => Or.inr ?_) lx_cov.2 (by decide) (hts _ (List.mem_of_getElem? (i := 2) rfl)) (va_Nw.use rfl hE.2.2.1.2) hce hcv hcl ?_
      · cases List.mem_singleton.mp hz
        exact ⟨by decide, iN, hts _ (List.mem_of_getElem? (i := 1) rfl), hE.2.2.2.2⟩
      · refine lv_astore (lv' := [(4, .ref q9), (0, .ref q_this), (1, .int a1), (2, .int a2), (3, .ref q_out)]) hx hb dL_look_17 hl (by decide) rfl (fun ls hl => ?_)
        refine lv_iconst (v := 2) hx hb dL_look_19 (by decide) ?_
        exact vx_ret (W.iret (v := 2) hx hb hr (fun t ht hW => ⟨⟨2, (), rfl, rfl, by rw [ht]; exact hP2, va_K.moved hW.alike hK, hD2⟩, hS1.F ht⟩) (hS1.2.2) dL_look_20 hlocks)
  · obtain ⟨hP1, -, hD1⟩ := hB
    rw [ht] at hP1
    subst hw
    obtain ⟨hP2, hD2⟩ := hcut.join hP hD hFc hk1 hP1 hD1
    have hout : (ws ++ [(q_out, (.inl (cJ, 1, .inr (.inl w_out)) : va_E))])[10]? = some (q_out, .inl (cJ, 1, .inr (.inl w_out))) := by
      match ws, hlen with
      | [b0, b1, b2, b3, b4, b5, b6, b7, b8, b9], _ => rfl
    refine lv_i2l hx hb dL_look_8 rfl ?_
    refine va_last hx hb hK hP2 hD2 hS1 10 1 hout rfl (vin (by decide)) dL_look_9 (fun H locs hP hD hS => ?_)
    have hset : (ws ++ [(q_out, (.inl (cJ, 1, .inr (.inl w_out)) : va_E))]).set 10 (q_out, .inl (cJ, 1, .inr (.inl (vp_updL w_out (0 : Int32).toNatClampNeg r.toInt64)))) = ws ++ [(q_out, .inl (cJ, 1, .inr (.inl (lkO w_out (Sum.inl r)))))] := by
      match ws, hlen with
      | [b0, b1, b2, b3, b4, b5, b6, b7, b8, b9], _ => rfl
    rw [hset] at hP hD
    refine lv_goto (tgt := 21) hx hb dL_look_10 (by decide) ?_
    refine lv_iconst (v := 0) hx hb dL_look_21 (by decide) ?_
    exact vx_ret (W.iret (v := 0) hx hb hr (fun t ht hW => ⟨⟨0, (), rfl, rfl, by rw [ht]; exact hP, va_K.moved hW.alike hK, hD⟩, hS.F ht⟩) (hS.2.2) dL_look_22 hlocks)
