/-! look: what it stands on, its contract, and the law's own look, which catches -/
def EnL (sa1 sa2 : Nat) : aE := fun A U H => (vk_R "DryWells" 205 "no such VILLAGE" sa1 U ∧ vk_R "DryWells" 230 "no such what" sa2 U) ∧ (vx_Zq Bundle.tN "UNASSIGNED_STACK" Bundle.steD A U H ∧ vx_Zq Bundle.tN "SUPPRESSED_SENTINEL" Bundle.listD A U H) ∧ (va_Nw (.castable iN iN) U ∧ va_Nw (.castable nN nN) U) ∧ (va_Nw (.declares (Bundle.initS "java/lang/RuntimeException")) U ∧ va_Nw (.declares (Bundle.initS "java/lang/Exception")) U ∧ va_Nw (.declares (Bundle.initS "java/lang/Throwable")) U) ∧ va_Nc nN iN U
theorem EnL_cl {sa1 sa2 : Nat} : clE (EnL sa1 sa2) := by
  refine ⟨fun A u U H hv h => ?_, fun A s U H hW h => ?_, fun A U H H1 h hq => ?_, fun A B U H h hAB => ?_⟩
  · obtain ⟨⟨a1, a2⟩, ⟨b1, b2⟩, ⟨c1, c2⟩, ⟨d1, d2, d3⟩, f⟩ := h
    have ha : u.vm.Alike U.vm := by rw [hv]; exact Vm.Alike.refl _
    exact ⟨⟨a1.same hv, a2.same hv⟩, ⟨b1.moved ha, b2.moved ha⟩, ⟨va_Nw.same rfl hv.symm c1, va_Nw.same rfl hv.symm c2⟩, ⟨va_Nw.same rfl hv.symm d1, va_Nw.same rfl hv.symm d2, va_Nw.same rfl hv.symm d3⟩, f.moved ha⟩
  · obtain ⟨⟨a1, a2⟩, ⟨b1, b2⟩, ⟨c1, c2⟩, ⟨d1, d2, d3⟩, f⟩ := h
    have ha := hW.alike
    exact ⟨⟨a1.warm hW, a2.warm hW⟩, ⟨b1.moved ha, b2.moved ha⟩, ⟨va_Nw.warmC hW c1, va_Nw.warmC hW c2⟩, ⟨va_Nw.warmD hW d1, va_Nw.warmD hW d2, va_Nw.warmD hW d3⟩, f.moved ha⟩
  · obtain ⟨a, ⟨b1, b2⟩, c⟩ := h
    exact ⟨a, ⟨b1.kept hq, b2.kept hq⟩, c⟩
  · obtain ⟨a, ⟨b1, b2⟩, c⟩ := h
    exact ⟨a, ⟨b1.narrow hAB, b2.narrow hAB⟩, c⟩
theorem lx_b1 : ∀ w ∈ (vx_atS RX6 207 iN lnm).filter (fun w => !goodWord w), w ∈ [Cond.castable iN iN, .declares (Bundle.initS "java/lang/RuntimeException"), .declares (Bundle.initS "java/lang/Exception"), .declares (Bundle.initS "java/lang/Throwable")] := by decide +kernel
theorem lx_b2 : ∀ w ∈ (xt_at RX6 232 nN "java/lang/RuntimeException" 13 nse13 ["java/lang/Exception"]).filter (fun w => !goodWord w), w ∈ [Cond.castable nN nN, .declares (Bundle.initS "java/lang/RuntimeException"), .declares (Bundle.initS "java/lang/Exception"), .declares (Bundle.initS "java/lang/Throwable")] := by decide +kernel
theorem lx_g1 : ∀ w ∈ Cond.classLink RX6 203 iN :: Cond.initialized iN :: vx_atS RX6 207 iN lnm, vx_ot w = true := by decide +kernel
theorem lx_g2 : ∀ w ∈ Cond.classLink RX6 228 nN :: Cond.initialized nN :: xt_at RX6 232 nN "java/lang/RuntimeException" 13 nse13 ["java/lang/Exception"], vx_ot w = true := by decide +kernel
theorem lx_d : decode nse13 0 = .ok (.aload_n 0, 1) ∧ decode nse13 1 = .ok (.aload_n 1, 1) ∧ decode nse13 2 = .ok (.invokespecial 13, 3) ∧ decode nse13 5 = .ok (.return_, 1) ∧ Bundle.fit "java/lang/RuntimeException" = true ∧ ∀ n ∈ ["java/lang/Exception"], Bundle.fit n = true := by decide +kernel
theorem lx_f : Bundle.fit iN = true ∧ Bundle.fit nN = true ∧ ∀ n ∈ lnm, Bundle.fit n = true := by decide +kernel
def CtX (l : Launch) (y : MethodName) (wy : List Cond) (rm : Room) (D : va_G) (tys : List (ClassId × FieldType)) (E : aE) (ws : va_W) (as : List Value) (o : Int32 ⊕ Nat) : Prop :=
  ∀ sz : Nat, vx_Met l y wy rm (va_Pc as (kPre D tys E ws sz)) (va_Qi (fun (x : Int32) (_ : Unit) => o = Sum.inl x) (kPost D tys (va_A ws sz) ws) (va_A ws sz)) (vx_X (fun (_ : Unit) => True) (fun E' _ t => ((o = Sum.inr 1 ∧ E' = iN) ∨ (o = Sum.inr 2 ∧ E' = nN)) ∧ kPost D tys (va_A ws sz) ws () t) (va_A ws sz)) 1 6 (va_A ws sz)
set_option maxHeartbeats 4000000 in
set_option maxRecDepth 100000 in
theorem lx_met {l : Launch} (hst : l.stackTraces = false) {D : va_G} {tys : List (ClassId × FieldType)} {ws : va_W} {as : List Value} {o : Int32 ⊕ Nat} (sa1 sa2 : Nat) (hn : (lg_sl as).length ≤ 3) (core : BdX l D tys rmX6_look ws as o) : CtX l yX6_look wsX6_look rmX6_look D tys (EnL sa1 sa2) ws as o := by
  intro sz
  refine vx_ofW (cc := cX6_look) (maxL := 3) (ret := some .int) plX6 rfl ?_
  intro p e s m args below meth c s₁ B hml hnt hv
  obtain ⟨rfl, hsz, hP, hK, hD0, hE⟩ := hv
  have hts := atoms_spec (ws := wsX6_look) B.pre
  have hown : s.vm.findClass RX6 = some m.cls := findClass_of_methodNamed B.named
  subst hsz
  rw [lg_entry_eq]
  refine core p e s m below meth c (va_A ws s.heap.size) _ ⟨B.exec, B.bytes, hml, hown, hts⟩ hK (fun q h => Or.inr h) ?_ ?_ ?_ s.heap [] hP hD0.self va_S.rf _ (lv_entry as hn)
  · intro r hr pc ls H locs hd hP hD hS
    exact W.widen (k := 1) (n := 6) (by omega) (by omega) (vx_ret (W.iret (v := r) B.exec B.bytes B.returns (fun t ht hW => ⟨⟨r, (), rfl, hr, by rw [ht]; exact hP, va_K.moved hW.alike hK, hD⟩, hS.F ht⟩) hS.2.2 hd B.notSynchronized))
  · intro ho pc ls rest H locs d0 d3 d4 d6 d9 hP hD hS hsz hr
    subst hr
    exact vx_throwS (names := lnm) B.exec B.bytes hst hown lx_f.1 lx_f.2.2 (hts _ (List.mem_of_getElem? (i := 1) rfl)) (hts _ (List.mem_of_getElem? (i := 2) rfl)) hE.1.1
      (vx_hat (fun w h => hts w (List.mem_cons_of_mem _ (List.mem_append_left _ (List.mem_append_right _ h)))) lx_b1 (vx_c (va_Nw.use rfl hE.2.2.1.1) (vx_c (va_Nw.use rfl hE.2.2.2.1.1) (vx_c (va_Nw.use rfl hE.2.2.2.1.2.1) (vx_c (va_Nw.use rfl hE.2.2.2.1.2.2) vx_n))))) lx_g1 hE.2.1.1 hE.2.1.2 hS (hsz.trans hml.symm) d0 d3 d4 d6 d9 (fun x hx => (hnt x hx).elim) (Nat.le_of_ble_eq_true rfl) (Nat.le_of_ble_eq_true rfl) (Nat.le_of_ble_eq_true rfl) (Nat.le_of_ble_eq_true rfl) B.notSynchronized
      (fun t hal hz hk => ⟨(), trivial, ⟨Or.inl ⟨ho, rfl⟩, hP.kept (fun k q hq => hk q.1 ((hP k q hq).lt)), va_K.moved hal hK, hD⟩, Nat.le_trans hS.1 hz, fun q h1 h2 => (hk q (Nat.lt_of_lt_of_le h1 hS.1)).trans (hS.2.1 q h1 h2)⟩) hS.2.2 (Nat.le_refl _) (Nat.le_refl _)
  · intro ho pc ls rest H locs d0 d3 d4 d6 d9 hP hD hS hsz hr
    subst hr
    exact xt_throwS (names := ["java/lang/Exception"]) (sup := "java/lang/RuntimeException") (ix := 13) (bts := nse13) B.exec B.bytes hst hown lx_d.1 lx_d.2.1 lx_d.2.2.1 lx_d.2.2.2.1 lx_d.2.2.2.2.1 lx_f.2.1 lx_d.2.2.2.2.2 (hts _ (List.mem_of_getElem? (i := 3) rfl)) (hts _ (List.mem_of_getElem? (i := 4) rfl)) hE.1.2
      (vx_hat (fun w h => hts w (List.mem_cons_of_mem _ (List.mem_append_right _ h))) lx_b2 (vx_c (va_Nw.use rfl hE.2.2.1.2) (vx_c (va_Nw.use rfl hE.2.2.2.1.1) (vx_c (va_Nw.use rfl hE.2.2.2.1.2.1) (vx_c (va_Nw.use rfl hE.2.2.2.1.2.2) vx_n))))) lx_g2 hE.2.1.1 hE.2.1.2 hS (hsz.trans hml.symm) d0 d3 d4 d6 d9 (fun x hx => (hnt x hx).elim) (Nat.le_of_ble_eq_true rfl) (Nat.le_of_ble_eq_true rfl) (Nat.le_of_ble_eq_true rfl) (Nat.le_of_ble_eq_true rfl) B.notSynchronized
      (fun t hal hz hk => ⟨(), trivial, ⟨Or.inr ⟨ho, rfl⟩, hP.kept (fun k q hq => hk q.1 ((hP k q hq).lt)), va_K.moved hal hK, hD⟩, Nat.le_trans hS.1 hz, fun q h1 h2 => (hk q (Nat.lt_of_lt_of_le h1 hS.1)).trans (hS.2.1 q h1 h2)⟩) hS.2.2 (Nat.le_refl _) (Nat.le_refl _)
