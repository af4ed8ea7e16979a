/-! what stands in the statics and in the text constants -/
def tb_LEAST (j : Nat) : Int32 := [0, 1, 0].getD j 0
def tb_MOST (j : Nat) : Int32 := [999, 9, 9].getD j 0
def tb_UNTOLD (j : Nat) : Int32 := [999, 9, 0].getD j 0
def sN (i : Nat) : Nat := [4, 3, 4].getD i 0
def sB : List (List Int32) := [[115, 97, 108, 116], [100, 114, 121], [114, 101, 115, 116]]
def sC (i j : Nat) : Int32 := (sB.getD i []).getD j 0
def En (tL tM tU : Nat) (adK adV : Nat → Nat) : aE := fun A U H =>
  (va_Z "DryWells$Book" "LEAST" "[I" (.ref tL) A U H ∧ va_T .int tL 3 (fun j => .int (tb_LEAST j)) A U H) ∧
  (va_Z "DryWells$Book" "MOST" "[I" (.ref tM) A U H ∧ va_T .int tM 3 (fun j => .int (tb_MOST j)) A U H) ∧
  (va_Z "DryWells$Book" "UNTOLD" "[I" (.ref tU) A U H ∧ va_T .int tU 3 (fun j => .int (tb_UNTOLD j)) A U H) ∧
  va_Z "java/lang/String" "COMPACT_STRINGS" "Z" (.int 1) A U H ∧
  va_Zq "jdk/internal/util/Preconditions" "SIOOBE_FORMATTER" "Ljava/util/function/BiFunction;" A U H ∧
  vk_S 3 [4, 3, 4] sB adK adV A U H ∧
  vk_R "DryWells$Book" 74 "salt" (adK 0) U ∧ vk_R "DryWells$Book" 80 "dry" (adK 1) U ∧ vk_R "DryWells$Book" 82 "rest" (adK 2) U
theorem En_cl {tL tM tU : Nat} {adK adV : Nat → Nat} : clE (En tL tM tU adK adV) := by
  refine ⟨fun A u U H hv h => ?_, fun A s U H hW h => ?_, fun A U H H1 h hq => ?_, fun A B U H h hAB => ?_⟩
  · obtain ⟨⟨a1, a2⟩, ⟨b1, b2⟩, ⟨c1, c2⟩, d, e, f, g1, g2, g3⟩ := h
    have ha : u.vm.Alike U.vm := by rw [hv]; exact Vm.Alike.refl _
    exact ⟨⟨a1.moved ha, a2.moved ha⟩, ⟨b1.moved ha, b2.moved ha⟩, ⟨c1.moved ha, c2.moved ha⟩, d.moved ha, e.moved ha, f.moved ha, g1.same hv, g2.same hv, g3.same hv⟩
  · obtain ⟨⟨a1, a2⟩, ⟨b1, b2⟩, ⟨c1, c2⟩, d, e, f, g1, g2, g3⟩ := h
    have ha := hW.alike
    exact ⟨⟨a1.moved ha, a2.moved ha⟩, ⟨b1.moved ha, b2.moved ha⟩, ⟨c1.moved ha, c2.moved ha⟩, d.moved ha, e.moved ha, f.moved ha, g1.warm hW, g2.warm hW, g3.warm hW⟩
  · obtain ⟨⟨a1, a2⟩, ⟨b1, b2⟩, ⟨c1, c2⟩, d, e, f, g⟩ := h
    exact ⟨⟨a1.kept hq, a2.kept hq⟩, ⟨b1.kept hq, b2.kept hq⟩, ⟨c1.kept hq, c2.kept hq⟩, d.kept hq, e.kept hq, f.kept hq, g⟩
  · obtain ⟨⟨a1, a2⟩, ⟨b1, b2⟩, ⟨c1, c2⟩, d, e, f, g⟩ := h
    exact ⟨⟨a1.narrow hAB, a2.narrow hAB⟩, ⟨b1.narrow hAB, b2.narrow hAB⟩, ⟨c1.narrow hAB, c2.narrow hAB⟩, d.narrow hAB, e.narrow hAB, f.narrow hAB, g⟩
abbrev rm00 : Room := { frames := 0, cells := 0, slots := 0, locals := 0 }
set_option maxHeartbeats 4000000 in
set_option maxRecDepth 100000 in
theorem ctJ0_coder (l : Launch) (D : va_G) (tys : List (ClassId × FieldType)) (tL tM tU : Nat) (adK adV : Nat → Nat) (i : Nat) (hi : i < 3) : CtI l yJ0_coder_7d493 wsJ0_coder_7d493 rm00 D tys (En tL tM tU adK adV) [] [.ref (adK i)] 0 [] := by
  refine ctT (ty := .byte) plJ0 rfl (Nat.le_of_ble_eq_true rfl) ?_
  intro p e s m below meth c A Q S hK hA hE hret H locs hP hD hS ls hl
  replace S : CallFix p m c cJ0_coder_7d493 1 s _ wsJ0_coder_7d493 RJ0 := S
  generalize ([.ref (adK i)] : List Value).toArray = args at S hret ⊢
  obtain ⟨hx, hb, hml, hown, hts⟩ := id S
  replace hl : lv_has ls 1 [(0, .ref (adK i))] := hl
  refine va_gets hx hb hE.2.2.2.1 hS hown (hts _ (List.mem_of_getElem? (i := 1) rfl)) (fun _ h => h) dJ0_coder_7d493_0 ?_
  refine lv_if_eq (tgt := 13) hx hb dJ0_coder_7d493_3 (by decide) (fun c1 => absurd c1 (by decide)) (fun c1 => ?_)
  refine lv_aload_n hx hb dJ0_coder_7d493_6 rfl (lv_at hl 0 rfl) ?_
  refine vk_getf hx hb (hE.2.2.2.2.2.1.1 i hi).2.1 hS hown (hts _ (List.mem_of_getElem? (i := 2) rfl)) (fun _ h => h) dJ0_coder_7d493_7 ?_
  refine lv_goto (tgt := 14) hx hb dJ0_coder_7d493_10 (by decide) ?_
  exact hret _ _ _ _ rfl dJ0_coder_7d493_14 hP hD hS
theorem hdJ0_coder : yJ0_coder_7d493.cls = RJ0 ∧ yJ0_coder_7d493.cls ≠ "java/lang/invoke/MethodHandle" ∧ yJ0_coder_7d493.cls ≠ "java/lang/invoke/VarHandle" ∧ (parseMethodDescriptor yJ0_coder_7d493.desc).map (fun d => d.parameters.length) = some 0 := by decide +kernel
abbrev rmJ0_length : Room := { frames := 1, cells := 0, slots := 0, locals := 20 }
set_option maxHeartbeats 4000000 in
set_option maxRecDepth 100000 in
theorem ctJ0_length (l : Launch) (D : va_G) (tys : List (ClassId × FieldType)) (tL tM tU : Nat) (adK adV : Nat → Nat) (i : Nat) (hi : i < 3) : CtI l yJ0_length_8abf5 wsJ0_length_8abf5 rmJ0_length D tys (En tL tM tU adK adV) [] [.ref (adK i)] (nI (sN i)) [] := by
  refine ctI plJ0 rfl (Nat.le_of_ble_eq_true rfl) ?_
  intro p e s m below meth c A Q S hK hA hE hret H locs hP hD hS ls hl
  replace S : CallFix p m c cJ0_length_8abf5 1 s _ wsJ0_length_8abf5 RJ0 := S
  generalize ([.ref (adK i)] : List Value).toArray = args at S hret ⊢
  obtain ⟨hx, hb, hml, hown, hts⟩ := id S
  replace hl : lv_has ls 1 [(0, .ref (adK i))] := hl
  refine lv_aload_n hx hb dJ0_length_8abf5_0 rfl (lv_at hl 0 rfl) ?_
  refine vk_getf hx hb (hE.2.2.2.2.2.1.1 i hi).2.2.1 hS hown (hts _ (List.mem_of_getElem? (i := 1) rfl)) (fun _ h => h) dJ0_length_8abf5_1 ?_
  refine va_tlen hx hb (hE.2.2.2.2.2.1.1 i hi).2.2.2 hS (v := nI (sN i)) rfl dJ0_length_8abf5_4 ?_
  refine lv_aload_n hx hb dJ0_length_8abf5_5 rfl (lv_at hl 0 rfl) ?_
  refine kVi0 S hK hA (ctJ0_coder l D tys tL tM tU adK adV i hi) En_cl (cwV 0 hts gJ0_length_8abf5_J0_coder_7d493 rfl rfl rfl hdJ0_coder ⟨Nat.le_of_ble_eq_true rfl, Nat.le_of_ble_eq_true rfl⟩) (vk_recv hE.2.2.2.2.2.1 hi hS) [] [] [] (ws' := []) ⟨rfl, rfl, rfl, rfl, rfl, rfl, rfl⟩ hE rfl hl.1 rfl (Nat.le_of_ble_eq_true rfl) dJ0_length_8abf5_6 hP hD hS (fun H locs hP hD hS => ?_)
  refine lv_ishr hx hb dJ0_length_8abf5_9 ?_
  rw [sb_shr0]
  exact hret _ _ _ _ dJ0_length_8abf5_10 hP hD hS
set_option maxHeartbeats 4000000 in
set_option maxRecDepth 100000 in
theorem ctJ0_isLatin1 (l : Launch) (D : va_G) (tys : List (ClassId × FieldType)) (tL tM tU : Nat) (adK adV : Nat → Nat) (i : Nat) (hi : i < 3) : CtI l yJ0_isLatin1_aae02 wsJ0_isLatin1_aae02 rm00 D tys (En tL tM tU adK adV) [] [.ref (adK i)] 1 [] := by
  refine ctZ plJ0 rfl (Nat.le_of_ble_eq_true rfl) ?_
  intro p e s m below meth c A Q S hK hA hE hret H locs hP hD hS ls hl
  replace S : CallFix p m c cJ0_isLatin1_aae02 1 s _ wsJ0_isLatin1_aae02 RJ0 := S
  generalize ([.ref (adK i)] : List Value).toArray = args at S hret ⊢
  obtain ⟨hx, hb, hml, hown, hts⟩ := id S
  replace hl : lv_has ls 1 [(0, .ref (adK i))] := hl
  refine va_gets hx hb hE.2.2.2.1 hS hown (hts _ (List.mem_of_getElem? (i := 1) rfl)) (fun _ h => h) dJ0_isLatin1_aae02_0 ?_
  refine lv_if_eq (tgt := 17) hx hb dJ0_isLatin1_aae02_3 (by decide) (fun c1 => absurd c1 (by decide)) (fun c1 => ?_)
  refine lv_aload_n hx hb dJ0_isLatin1_aae02_6 rfl (lv_at hl 0 rfl) ?_
  refine vk_getf hx hb (hE.2.2.2.2.2.1.1 i hi).2.1 hS hown (hts _ (List.mem_of_getElem? (i := 2) rfl)) (fun _ h => h) dJ0_isLatin1_aae02_7 ?_
  refine lv_if_ne (tgt := 17) hx hb dJ0_isLatin1_aae02_10 (by decide) (fun c1 => absurd rfl c1) (fun c1 => ?_)
  refine lv_iconst (v := 1) hx hb dJ0_isLatin1_aae02_13 (by decide) ?_
  refine lv_goto (tgt := 18) hx hb dJ0_isLatin1_aae02_14 (by decide) ?_
  exact hret _ _ _ _ nar1 dJ0_isLatin1_aae02_18 hP hD hS
set_option maxHeartbeats 4000000 in
set_option maxRecDepth 100000 in
/-- Preconditions.checkIndex, in range; the maker of the message is only carried -/
theorem ctJ3_checkIndex (l : Launch) (D : va_G) (tys : List (ClassId × FieldType)) (i n : Int32) (v : Value) (hv : v.category = 1) (h0 : ¬ i < 0) (h1 : i < n) : CtI l yJ3_checkIndex_8e157 wsJ3_checkIndex_8e157 rm00 D tys noE [] [.int i, .int n, v] i [] := by
  refine ctI plJ3 rfl (by cases v <;> first | exact Nat.le_of_ble_eq_true rfl | cases hv) ?_
  intro p e s m below meth c A Q S hK hA hE hret H locs hP hD hS ls hl
  replace S : CallFix p m c cJ3_checkIndex_8e157 3 s _ wsJ3_checkIndex_8e157 RJ3 := S
  generalize ([.int i, .int n, v] : List Value).toArray = args at S hret ⊢
  obtain ⟨hx, hb, hml, hown, hts⟩ := id S
  replace hl : lv_has ls 3 [(0, .int i), (1, .int n), (2, v)] := hl
  refine lv_iload_n hx hb dJ3_checkIndex_8e157_0 rfl (lv_at hl 0 rfl) ?_
  refine lv_if_lt (tgt := 9) hx hb dJ3_checkIndex_8e157_1 (by decide) (fun c1 => absurd c1 h0) (fun c1 => ?_)
  refine lv_iload_n hx hb dJ3_checkIndex_8e157_4 rfl (lv_at hl 0 rfl) ?_
  refine lv_iload_n hx hb dJ3_checkIndex_8e157_5 rfl (lv_at hl 1 rfl) ?_
  refine lv_icmp_lt (tgt := 16) hx hb dJ3_checkIndex_8e157_6 (by decide) (fun c1 => ?_) (fun c1 => absurd h1 c1)
  refine lv_iload_n hx hb dJ3_checkIndex_8e157_16 rfl (lv_at hl 0 rfl) ?_
  exact hret _ _ _ _ dJ3_checkIndex_8e157_17 hP hD hS
theorem hdJ3_checkIndex : yJ3_checkIndex_8e157.cls ≠ "java/lang/invoke/MethodHandle" ∧ yJ3_checkIndex_8e157.cls ≠ "java/lang/invoke/VarHandle" ∧ (parseMethodDescriptor yJ3_checkIndex_8e157.desc).map (fun d => d.parameters.length) = some 3 := by decide +kernel
abbrev rmJ0_checkIndex : Room := { frames := 1, cells := 0, slots := 0, locals := 22 }
set_option maxHeartbeats 4000000 in
set_option maxRecDepth 100000 in
theorem ctJ0_checkIndex (l : Launch) (D : va_G) (tys : List (ClassId × FieldType)) (tL tM tU : Nat) (adK adV : Nat → Nat) (i n : Int32) (h0 : ¬ i < 0) (h1 : i < n) : CtV l yJ0_checkIndex_df160 wsJ0_checkIndex_df160 rmJ0_checkIndex D tys (En tL tM tU adK adV) [] [.int i, .int n] [] := by
  refine ctV plJ0 rfl (Nat.le_of_ble_eq_true rfl) ?_
  intro p e s m below meth c A Q S hK hA hE hret H locs hP hD hS ls hl
  replace S : CallFix p m c cJ0_checkIndex_df160 2 s _ wsJ0_checkIndex_df160 RJ0 := S
  generalize ([.int i, .int n] : List Value).toArray = args at S hret ⊢
  obtain ⟨hx, hb, hml, hown, hts⟩ := id S
  replace hl : lv_has ls 2 [(0, .int i), (1, .int n)] := hl
  refine lv_iload_n hx hb dJ0_checkIndex_df160_0 rfl (lv_at hl 0 rfl) ?_
  refine lv_iload_n hx hb dJ0_checkIndex_df160_1 rfl (lv_at hl 1 rfl) ?_
  have go : ∀ v : Value, v.category = 1 → W p l e rmJ0_checkIndex s m args below meth c H locs 0 0 Q (F0 m 5 ls [v, .int n, .int i]) := by
    intro v hv
    refine kSi S hK hA (ctJ3_checkIndex l D tys i n v hv h0 h1) noE_cl (va_cwS 3 hts gJ0_checkIndex_df160_J3_checkIndex_8e157 rfl rfl rfl hdJ3_checkIndex ⟨Nat.le_of_ble_eq_true rfl, Nat.le_of_ble_eq_true rfl⟩) [] [] [] (ws' := []) ⟨rfl, rfl, rfl, rfl, rfl, rfl, rfl⟩ trivial rfl hl.1 rfl (Nat.le_of_ble_eq_true rfl) dJ0_checkIndex_df160_5 hP hD hS (fun H locs hP hD hS => ?_)
    refine lv_pop hx hb dJ0_checkIndex_df160_8 rfl ?_
    exact hret _ _ _ _ dJ0_checkIndex_df160_9 hP hD hS
  rcases hE.2.2.2.2.1 with hz | ⟨t, hz⟩
  · refine va_gets hx hb hz hS hown (hts _ (List.mem_of_getElem? (i := 1) rfl)) (fun _ h => h) dJ0_checkIndex_df160_2 ?_
    exact go _ rfl
  · refine va_gets hx hb hz hS hown (hts _ (List.mem_of_getElem? (i := 1) rfl)) (fun _ h => h) dJ0_checkIndex_df160_2 ?_
    exact go _ rfl
theorem hdJ0_checkIndex : yJ0_checkIndex_df160.cls ≠ "java/lang/invoke/MethodHandle" ∧ yJ0_checkIndex_df160.cls ≠ "java/lang/invoke/VarHandle" ∧ (parseMethodDescriptor yJ0_checkIndex_df160.desc).map (fun d => d.parameters.length) = some 2 := by decide +kernel
theorem kSv {p : Program} {l : Launch} {e : Env} {R : Room} {s : State} {m : MethodId} {args : Array Value} {below : List Frame} {meth : Method} {c : Code} {H : Heap} {locs : List Loc} {Q : State → Prop} {cc : ByteArray} {nL : Nat} {Ts : List Cond} {own : String} {D : va_G} {tys : List (ClassId × FieldType)} {E : aE} {A : Nat → Prop} {ws wc wc' ws' : va_W} {y : MethodName} {wy : List Cond} {rm : Room} {bytes : ByteArray} {maxL n index pc : Nat} {ret : Option FieldType} {As rest st0 : List Value} {ls : Array Slot} (S : CallFix p m c cc nL s args Ts own) (hK : va_K D vwCl tys s) (hA : ∀ q, s.heap.size ≤ q → A q) (hM : CtV l y wy rm D tys E wc As wc') (hcl : clE E) (cw : CallB R s args own index y bytes maxL ret wy rm 0 0 n ∧ (Cond.static y).before args s = true)
    (isC isR isN : List Nat) (hcut : Cut ws wc wc' ws' isC isR isN) (hE : E A s s.heap) (hn : As.length = n) (hsize : ls.size = nL) (hst : st0 = As.reverse ++ rest) (hW : (rest.map fun v => v.category).sum ≤ 8) (hdg : decode cc pc = .ok (.invokestatic index, 3)) (hP : va_P D vwCl ws H) (hD : va_D A ws) (hS : va_S A s.heap H locs)
    (kk : ∀ (H1 : Heap) (locs1 : List Loc), va_P D vwCl ws' H1 → va_D A ws' → va_S A s.heap H1 locs1 → W p l e R s m args below meth c H1 locs1 0 0 Q (F0 m (pc + 3) ls rest)) : W p l e R s m args below meth c H locs 0 0 Q (F0 m pc ls st0) := by
  have hPc := va_Pm hP isC hcut.1
  have hDc := hD.sub isC hcut.2.2.1 hcut.1
  have hFc := va_free (wc := wc) hD hS hA isC hcut.1
  subst hst
  refine va_callv (va_runS S (hM H.size) cw ⟨kPre_blind hcl, fun U hU hW => ⟨rfl, by rw [hU], by rw [hU]; exact hPc, va_K.moved hW.alike hK, hDc.weaken (fun _ _ _ _ => trivial), by rw [hU]; exact hcl.2.1 _ s U _ hW (hcl.2.2.2 _ _ _ _ (hcl.2.2.1 _ _ _ _ hE hS.2.1) hFc)⟩⟩ rfl hn hsize rfl (lv_room hW) hdg ⟨Nat.zero_le _, Nat.zero_le _⟩) hS (fun q _ h => hFc q h) hFc (fun u t H1 locs1 ht hvm hw hB hz1 hk1 hS1 => ?_)
  obtain ⟨hP1, -, hD1⟩ := hB
  rw [ht] at hP1
  obtain ⟨a, b⟩ := hcut.join hP hD hFc hk1 hP1 hD1
  exact kk H1 locs1 a b hS1
theorem sN_lt : ∀ i, i < 3 → sN i < 2 ^ 31 := by decide
theorem sC_ch : ∀ i, i < 3 → ∀ j, j < sN i → (((sC i j) &&& 255).toUInt32 % 65536).toInt32 = sC i j := by decide
theorem sC_nar : ∀ i, i < 3 → ∀ j, j < sN i → narrow .char (.int (sC i j)) = .int (sC i j) := by
  intro i hi j hj
  rw [← sC_ch i hi j hj]
  exact pk_nc _
theorem vin_lt {i : Int32} {n : Nat} (h : vp_in i n) (hn : n < 2 ^ 31) : ¬ i < 0 ∧ i < nI n := by
  obtain ⟨j, hj, rfl⟩ := vp_in_of h hn
  exact ⟨nI_pos (by omega), nI_lt hj hn⟩
abbrev rmJ1_charAt : Room := { frames := 2, cells := 0, slots := 0, locals := 43 }
set_option maxHeartbeats 4000000 in
set_option maxRecDepth 100000 in
theorem ctJ1_charAt (l : Launch) (D : va_G) (tys : List (ClassId × FieldType)) (tL tM tU : Nat) (adK adV : Nat → Nat) (i : Nat) (hi : i < 3) (k : Int32) (hk : vp_in k (sN i)) : CtI l yJ1_charAt_3b067 wsJ1_charAt_3b067 rmJ1_charAt D tys (En tL tM tU adK adV) [] [.ref (adV i), .int k] (sC i k.toNatClampNeg) [] := by
  refine ctT (ty := .char) plJ1 rfl (Nat.le_of_ble_eq_true rfl) ?_
  intro p e s m below meth c A Q S hK hA hE hret H locs hP hD hS ls hl
  replace S : CallFix p m c cJ1_charAt_3b067 2 s _ wsJ1_charAt_3b067 RJ1 := S
  generalize ([.ref (adV i), .int k] : List Value).toArray = args at S hret ⊢
  obtain ⟨hx, hb, hml, hown, hts⟩ := id S
  replace hl : lv_has ls 2 [(0, .ref (adV i)), (1, .int k)] := hl
  have hb1 := vin_lt hk (sN_lt i hi)
  have hkl : k.toNatClampNeg < sN i := Nat.not_le.mp fun q => hk (Or.inr q)
  refine lv_iload_n hx hb dJ1_charAt_3b067_0 rfl (lv_at hl 1 rfl) ?_
  refine lv_aload_n hx hb dJ1_charAt_3b067_1 rfl (lv_at hl 0 rfl) ?_
  refine va_tlen hx hb (hE.2.2.2.2.2.1.1 i hi).2.2.2 hS (v := nI (sN i)) rfl dJ1_charAt_3b067_2 ?_
  refine kSv S hK hA (ctJ0_checkIndex l D tys tL tM tU adK adV k (nI (sN i)) hb1.1 hb1.2) En_cl (va_cwS 2 hts gJ1_charAt_3b067_J0_checkIndex_df160 rfl rfl rfl hdJ0_checkIndex ⟨Nat.le_of_ble_eq_true rfl, Nat.le_of_ble_eq_true rfl⟩) [] [] [] (ws' := []) ⟨rfl, rfl, rfl, rfl, rfl, rfl, rfl⟩ hE rfl hl.1 rfl (Nat.le_of_ble_eq_true rfl) dJ1_charAt_3b067_3 hP hD hS (fun H locs hP hD hS => ?_)
  refine lv_aload_n hx hb dJ1_charAt_3b067_6 rfl (lv_at hl 0 rfl) ?_
  refine lv_iload_n hx hb dJ1_charAt_3b067_7 rfl (lv_at hl 1 rfl) ?_
  refine va_tb hx hb (hE.2.2.2.2.2.1.1 i hi).2.2.2 hS hk (v := .int (sC i k.toNatClampNeg)) rfl dJ1_charAt_3b067_8 ?_
  refine lv_sipush (v := 255) hx hb dJ1_charAt_3b067_9 (by decide) ?_
  refine lv_iand hx hb dJ1_charAt_3b067_12 ?_
  refine lv_i2c hx hb dJ1_charAt_3b067_13 (sC_ch i hi _ hkl) ?_
  exact hret _ _ _ _ (sC_nar i hi _ hkl) dJ1_charAt_3b067_14 hP hD hS
theorem hdJ1_charAt : yJ1_charAt_3b067.cls ≠ "java/lang/invoke/MethodHandle" ∧ yJ1_charAt_3b067.cls ≠ "java/lang/invoke/VarHandle" ∧ (parseMethodDescriptor yJ1_charAt_3b067.desc).map (fun d => d.parameters.length) = some 2 := by decide +kernel
theorem hdJ0_isLatin1 : yJ0_isLatin1_aae02.cls = RJ0 ∧ yJ0_isLatin1_aae02.cls ≠ "java/lang/invoke/MethodHandle" ∧ yJ0_isLatin1_aae02.cls ≠ "java/lang/invoke/VarHandle" ∧ (parseMethodDescriptor yJ0_isLatin1_aae02.desc).map (fun d => d.parameters.length) = some 0 := by decide +kernel
abbrev rmJ0_charAt : Room := { frames := 3, cells := 0, slots := 0, locals := 64 }
set_option maxHeartbeats 4000000 in
set_option maxRecDepth 100000 in
theorem ctJ0_charAt (l : Launch) (D : va_G) (tys : List (ClassId × FieldType)) (tL tM tU : Nat) (adK adV : Nat → Nat) (i : Nat) (hi : i < 3) (k : Int32) (hk : vp_in k (sN i)) : CtI l yJ0_charAt_5068e wsJ0_charAt_5068e rmJ0_charAt D tys (En tL tM tU adK adV) [] [.ref (adK i), .int k] (sC i k.toNatClampNeg) [] := by
  refine ctT (ty := .char) plJ0 rfl (Nat.le_of_ble_eq_true rfl) ?_
  intro p e s m below meth c A Q S hK hA hE hret H locs hP hD hS ls hl
  replace S : CallFix p m c cJ0_charAt_5068e 2 s _ wsJ0_charAt_5068e RJ0 := S
  generalize ([.ref (adK i), .int k] : List Value).toArray = args at S hret ⊢
  obtain ⟨hx, hb, hml, hown, hts⟩ := id S
  replace hl : lv_has ls 2 [(0, .ref (adK i)), (1, .int k)] := hl
  have hkl : k.toNatClampNeg < sN i := Nat.not_le.mp fun q => hk (Or.inr q)
  refine lv_aload_n hx hb dJ0_charAt_5068e_0 rfl (lv_at hl 0 rfl) ?_
  refine kVi0 S hK hA (ctJ0_isLatin1 l D tys tL tM tU adK adV i hi) En_cl (cwV 0 hts gJ0_charAt_5068e_J0_isLatin1_aae02 rfl rfl rfl hdJ0_isLatin1 ⟨Nat.le_of_ble_eq_true rfl, Nat.le_of_ble_eq_true rfl⟩) (vk_recv hE.2.2.2.2.2.1 hi hS) [] [] [] (ws' := []) ⟨rfl, rfl, rfl, rfl, rfl, rfl, rfl⟩ hE rfl hl.1 rfl (Nat.le_of_ble_eq_true rfl) dJ0_charAt_5068e_1 hP hD hS (fun H locs hP hD hS => ?_)
  refine lv_if_eq (tgt := 16) hx hb dJ0_charAt_5068e_4 (by decide) (fun c1 => absurd c1 (by decide)) (fun c1 => ?_)
  refine lv_aload_n hx hb dJ0_charAt_5068e_7 rfl (lv_at hl 0 rfl) ?_
  refine vk_getf hx hb (hE.2.2.2.2.2.1.1 i hi).2.2.1 hS hown (hts _ (List.mem_of_getElem? (i := 1) rfl)) (fun _ h => h) dJ0_charAt_5068e_8 ?_
  refine lv_iload_n hx hb dJ0_charAt_5068e_11 rfl (lv_at hl 1 rfl) ?_
  refine kSi S hK hA (ctJ1_charAt l D tys tL tM tU adK adV i hi k hk) En_cl (va_cwS 2 hts gJ0_charAt_5068e_J1_charAt_3b067 rfl rfl rfl hdJ1_charAt ⟨Nat.le_of_ble_eq_true rfl, Nat.le_of_ble_eq_true rfl⟩) [] [] [] (ws' := []) ⟨rfl, rfl, rfl, rfl, rfl, rfl, rfl⟩ hE rfl hl.1 rfl (Nat.le_of_ble_eq_true rfl) dJ0_charAt_5068e_12 hP hD hS (fun H locs hP hD hS => ?_)
  exact hret _ _ _ _ (sC_nar i hi _ hkl) dJ0_charAt_5068e_15 hP hD hS
theorem hdJ0_length_8abf5 : yJ0_length_8abf5.cls = RJ0 ∧ yJ0_length_8abf5.cls ≠ "java/lang/invoke/MethodHandle" ∧ yJ0_length_8abf5.cls ≠ "java/lang/invoke/VarHandle" ∧ (parseMethodDescriptor yJ0_length_8abf5.desc).map (fun d => d.parameters.length) = some 0 := by decide +kernel
theorem hdJ0_charAt_5068e : yJ0_charAt_5068e.cls = RJ0 ∧ yJ0_charAt_5068e.cls ≠ "java/lang/invoke/MethodHandle" ∧ yJ0_charAt_5068e.cls ≠ "java/lang/invoke/VarHandle" ∧ (parseMethodDescriptor yJ0_charAt_5068e.desc).map (fun d => d.parameters.length) = some 1 := by decide +kernel
