/-! rules: all lines -/
theorem rl_both {e n : Nat} (he : e ≤ n) (hn : n ≤ 200) {w w' wd : Nat → Int32} (hww : ∀ j, j < n → w j = w' j) (hw : IWd wd) (o2 : Int32 × Int32 × Int32 × Int32 × (Nat → Int32) × (Nat → Int32)) (ho : o2.2.2.2.1 = nI e) : ∀ (m i i0 : Nat), e - i ≤ m → i0 ≤ e → scn isB w' e i0 = i → ∀ (fr td mtd : Nat → Int32), LSt fr td mtd → ∀ (nx kd wc pc kd0 wh0 pl0 : Int32), shX7_take (nI e) (nI i0) kd0 wh0 pl0 w' wd = some (nx, kd, wc, pc) →
    (∃ c p at' fr' td' nx' kd' wc' pc' mtd', lp (fun s : Int32 × Int32 × Int32 × Int32 × (Nat → Int32) × (Nat → Int32) => shX0_read_L12 (nI n) w o2 s.1 s.2.1 s.2.2.1 s.2.2.2.1 s.2.2.2.2.1 s.2.2.2.2.2) (nI (tn td), 0, -1, nI i, fr, td) = some (.inl (c, p, at', fr', td')) ∧ lp (fun s : Int32 × Int32 × Int32 × Int32 × Int32 × Int32 × Int32 × (Nat → Int32) => shX7_rules_L71 w' wd (nI e) s.1 s.2.1 s.2.2.1 s.2.2.2.1 s.2.2.2.2.1 s.2.2.2.2.2.1 s.2.2.2.2.2.2.1 s.2.2.2.2.2.2.2) (nI (tn td), 0, -1, nx, kd, wc, pc, mtd) = some (.inl (c, p, nx', kd', wc', pc', mtd'))) ∨
    (∃ x at' fr' td' nx' kd' wc' pc' mtd', lp (fun s : Int32 × Int32 × Int32 × Int32 × (Nat → Int32) × (Nat → Int32) => shX0_read_L12 (nI n) w o2 s.1 s.2.1 s.2.2.1 s.2.2.2.1 s.2.2.2.2.1 s.2.2.2.2.2) (nI (tn td), 0, -1, nI i, fr, td) = some (.inr (x, 0, -1, at', fr', td')) ∧ lp (fun s : Int32 × Int32 × Int32 × Int32 × Int32 × Int32 × Int32 × (Nat → Int32) => shX7_rules_L71 w' wd (nI e) s.1 s.2.1 s.2.2.1 s.2.2.2.1 s.2.2.2.2.1 s.2.2.2.2.2.1 s.2.2.2.2.2.2.1 s.2.2.2.2.2.2.2) (nI (tn td), 0, -1, nx, kd, wc, pc, mtd) = some (.inr (x, 0, -1, nx', kd', wc', pc', mtd')) ∧ LSt fr' td' mtd') := by
  have he2 : e ≤ 200 := by omega
  intro m
  induction m with
  | zero =>
    intro i i0 hm hi0 hi fr td mtd hL nx kd wc pc kd0 wh0 pl0 hT
    have hie := (scn_b (P := isB) (w := w') hi0).2.1
    have hEq : i = e := by omega
    subst hEq
    rw [tk_end he2 hi0 hi kd0 wh0 pl0] at hT
    obtain ⟨rfl, rfl, rfl, rfl⟩ : nI i = nx ∧ (0 : Int32) = kd ∧ wh0 = wc ∧ nI i = pc := by simpa using hT
    right
    refine ⟨nI (tn td), nI i, fr, td, nI i, 0, wh0, nI i, mtd, lp_inr ?_, lp_inr ?_, hL⟩
    · show shX0_read_L12 (nI n) w o2 (nI (tn td)) 0 (-1) (nI i) fr td = _
      unfold shX0_read_L12
      rw [ho, if_pos (nI_le (Nat.le_refl _) (by omega))]
    · show shX7_rules_L71 w' wd (nI i) (nI (tn td)) 0 (-1) (nI i) 0 wh0 (nI i) mtd = _
      unfold shX7_rules_L71
      rw [if_pos rfl]
  | succ m ih =>
    intro i i0 hm hi0 hi fr td mtd hL nx kd wc pc kd0 wh0 pl0 hT
    have hie := (scn_b (P := isB) (w := w') hi0).2.1
    by_cases hEq : i = e
    · subst hEq
      rw [tk_end he2 hi0 hi kd0 wh0 pl0] at hT
      obtain ⟨rfl, rfl, rfl, rfl⟩ : nI i = nx ∧ (0 : Int32) = kd ∧ wh0 = wc ∧ nI i = pc := by simpa using hT
      right
      refine ⟨nI (tn td), nI i, fr, td, nI i, 0, wh0, nI i, mtd, lp_inr ?_, lp_inr ?_, hL⟩
      · show shX0_read_L12 (nI n) w o2 (nI (tn td)) 0 (-1) (nI i) fr td = _
        unfold shX0_read_L12
        rw [ho, if_pos (nI_le (Nat.le_refl _) (by omega))]
      · show shX7_rules_L71 w' wd (nI i) (nI (tn td)) 0 (-1) (nI i) 0 wh0 (nI i) mtd = _
        unfold shX7_rules_L71
        rw [if_pos rfl]
    · have hlt : i < e := by omega
      obtain ⟨z, -, z2, -⟩ := wd_both (s := i) (j := scn isL w e i) (n := n) (w := w) (w' := w') (scn_b (P := isL) (w := w) (e := e) (i := i) (by omega)).1 (by have := (scn_b (P := isL) (w := w) (e := e) (i := i) (by omega)).2.1; omega) hn hw hww
      rw [scn_congr (P := isL) (w := w) (w' := w') (by omega) he hww] at z2
      have hk0 : ¬ kd = 0 := by
        obtain ⟨nx2, kd2, wc2, u1, u2, u3, u4, u5⟩ := tk_any he2 hi0 hi z2 kd0 wh0 pl0
        rw [u1] at hT
        obtain ⟨rfl, rfl, rfl, rfl⟩ : nx2 = nx ∧ kd2 = kd ∧ wc2 = wc ∧ nI i = pc := by simpa using hT
        exact fun h => hEq (u5.mp h)
      have ht := tn_le td
      rcases ln_both he hn hww hw hi0 hi hlt hL hT with ⟨c, p, at', fr', td', nx', kd', wc', pc', mtd', r1, r2⟩ | ⟨i1, fr', td', kd', wc', pc', mtd', h1, h2, r1, r2, hL', hn'⟩
      · left
        refine ⟨c, p, at', fr', td', nx', kd', wc', pc', mtd', lp_inr ?_, lp_inr ?_⟩
        · show shX0_read_L12 (nI n) w o2 (nI (tn td)) 0 (-1) (nI i) fr td = _
          unfold shX0_read_L12
          rw [ho, if_neg (nI_ge hlt (by omega)), if_neg (show ¬ (3 : Int32) < nI (tn td) from nlt (a := 3) ht (by decide)), r1]
          simp only [bind_s, not_true_eq_false, ↓reduceIte]
        · show shX7_rules_L71 w' wd (nI e) (nI (tn td)) 0 (-1) nx kd wc pc mtd = _
          unfold shX7_rules_L71
          rw [if_neg hk0, r2]
          simp only [bind_s, not_true_eq_false, ↓reduceIte]
      · have hs := scn_b (P := isB) (w := w') (e := e) (i := i1) h2
        have cs : scn isB w e i1 = scn isB w' e i1 := scn_congr h2 he hww
        obtain ⟨y, -, y2, -⟩ := wd_both (s := scn isB w' e i1) (j := scn isL w e (scn isB w' e i1)) (n := n) (w := w) (w' := w') (scn_b (P := isL) (w := w) (e := e) (i := scn isB w' e i1) hs.2.1).1 (by have := (scn_b (P := isL) (w := w) (e := e) (i := scn isB w' e i1) hs.2.1).2.1; omega) hn hw hww
        rw [scn_congr (P := isL) (w := w) (w' := w') hs.2.1 he hww] at y2
        obtain ⟨nx2, kd2, wc2, u1, -⟩ := tk_any he2 h2 rfl y2 kd' wc' pc'
        have e1 : lp (fun s : Int32 × Int32 × Int32 × Int32 × (Nat → Int32) × (Nat → Int32) => shX0_read_L12 (nI n) w o2 s.1 s.2.1 s.2.2.1 s.2.2.2.1 s.2.2.2.2.1 s.2.2.2.2.2) (nI (tn td), 0, -1, nI i, fr, td) = lp (fun s : Int32 × Int32 × Int32 × Int32 × (Nat → Int32) × (Nat → Int32) => shX0_read_L12 (nI n) w o2 s.1 s.2.1 s.2.2.1 s.2.2.2.1 s.2.2.2.2.1 s.2.2.2.2.2) (nI (tn td'), 0, -1, nI (scn isB w' e i1), fr', td') := lp_inl (by
          show shX0_read_L12 (nI n) w o2 (nI (tn td)) 0 (-1) (nI i) fr td = _
          unfold shX0_read_L12
          rw [ho, if_neg (nI_ge hlt (by omega)), if_neg (show ¬ (3 : Int32) < nI (tn td) from nlt (a := 3) ht (by decide)), r1]
          simp only [bind_s, n10]
          rw [sb_c he hn w h2, bind_s, cs, nI_1, hn'])
        have e2 : lp (fun s : Int32 × Int32 × Int32 × Int32 × Int32 × Int32 × Int32 × (Nat → Int32) => shX7_rules_L71 w' wd (nI e) s.1 s.2.1 s.2.2.1 s.2.2.2.1 s.2.2.2.2.1 s.2.2.2.2.2.1 s.2.2.2.2.2.2.1 s.2.2.2.2.2.2.2) (nI (tn td), 0, -1, nx, kd, wc, pc, mtd) = lp (fun s : Int32 × Int32 × Int32 × Int32 × Int32 × Int32 × Int32 × (Nat → Int32) => shX7_rules_L71 w' wd (nI e) s.1 s.2.1 s.2.2.1 s.2.2.2.1 s.2.2.2.2.1 s.2.2.2.2.2.1 s.2.2.2.2.2.2.1 s.2.2.2.2.2.2.2) (nI (tn td'), 0, -1, nx2, kd2, wc2, nI (scn isB w' e i1), mtd') := lp_inl (by
          show shX7_rules_L71 w' wd (nI e) (nI (tn td)) 0 (-1) nx kd wc pc mtd = _
          unfold shX7_rules_L71
          rw [if_neg hk0, r2]
          simp only [bind_s, n10]
          rw [u1, bind_s, nI_1, hn'])
        rw [e1, e2]
        exact ih (scn isB w' e i1) i1 (by omega) h2 rfl fr' td' mtd' hL' nx2 kd2 wc2 (nI (scn isB w' e i1)) kd' wc' pc' u1
def cpF (f : Nat → Int32) (g : Nat → Int32) : Nat → Nat → Int32
  | 0 => f
  | i + 1 => upd (cpF f g i) i (g i)
theorem cpF_at (f g : Nat → Int32) {k : Nat} (hk : k < 3) : cpF f g 3 k = g k := by
  have : k = 0 ∨ k = 1 ∨ k = 2 := by omega
  rcases this with rfl | rfl | rfl
  · show upd (upd (upd f 0 (g 0)) 1 (g 1)) 2 (g 2) 0 = _
    rw [upd_n (by decide), upd_n (by decide), upd_s]
  · show upd (upd (upd f 0 (g 0)) 1 (g 1)) 2 (g 2) 1 = _
    rw [upd_n (by decide), upd_s]
  · show upd (upd (upd f 0 (g 0)) 1 (g 1)) 2 (g 2) 2 = _
    rw [upd_s]
theorem bg_c (a fk fp at' en : Int32) (fr td : Nat → Int32) : shX0_begin a fk fp at' en fr td = some (0, -1, 0, a, cpF fr tb_UNTOLD 3, cpF td (fun _ => 0) 3) := by
  have key : lp (fun s : Int32 × (Nat → Int32) × (Nat → Int32) => shX0_begin_L22 s.1 s.2.1 s.2.2) (0, fr, td) = some (cpF fr tb_UNTOLD 3, cpF td (fun _ => 0) 3) := by
    refine lp_to (fun i => (nI i, cpF fr tb_UNTOLD i, cpF td (fun _ => 0) i)) 3 (fun i hi => ?_) ?_
    · show shX0_begin_L22 (nI i) (cpF fr tb_UNTOLD i) (cpF td (fun _ => 0) i) = some (.inl (nI (i + 1), upd (cpF fr tb_UNTOLD i) i (tb_UNTOLD i), upd (cpF td (fun _ => 0) i) i 0))
      unfold shX0_begin_L22
      rw [if_neg (show ¬ (3 : Int32) ≤ nI i from nI_ge (b := 3) hi (by decide)), gd_nI (k := i) (by omega) (by decide), cl (by omega), nI_1, show vp_nar .boolean 0 = 0 from by decide]
      rfl
    · show shX0_begin_L22 (nI 3) _ _ = _
      unfold shX0_begin_L22
      rw [if_pos (by decide)]
  unfold shX0_begin shX0_begin_j_51
  rw [key, bind_s]
theorem nt_m (td : Nat → Int32) : lp (fun s : Int32 × (Nat → Int32) => shX7_rules_L42 s.1 s.2) (0, td) = some (cpF td (fun _ => -1) 3) := by
  refine lp_to (fun i => (nI i, cpF td (fun _ => -1) i)) 3 (fun i hi => ?_) ?_
  · show shX7_rules_L42 (nI i) (cpF td (fun _ => -1) i) = some (.inl (nI (i + 1), upd (cpF td (fun _ => -1) i) i (-1)))
    unfold shX7_rules_L42
    rw [if_neg (show ¬ (3 : Int32) ≤ nI i from nI_ge (b := 3) hi (by decide)), gd_nI (k := i) (by omega) (by decide), cl (by omega), nI_1]
    rfl
  · show shX7_rules_L42 (nI 3) _ = _
    unfold shX7_rules_L42
    rw [if_pos (by decide)]
theorem cy_c (f g : Nat → Int32) : lp (fun s : Int32 × (Nat → Int32) => shX0_read_L52 g s.1 s.2) (0, f) = some (cpF f g 3) := by
  refine lp_to (fun i => (nI i, cpF f g i)) 3 (fun i hi => ?_) ?_
  · show shX0_read_L52 g (nI i) (cpF f g i) = some (.inl (nI (i + 1), upd (cpF f g i) i (g i)))
    unfold shX0_read_L52
    rw [if_neg (show ¬ (3 : Int32) ≤ nI i from nI_ge (b := 3) hi (by decide)), gd_nI (k := i) (by omega) (by decide), cl (by omega), nI_1]
    rfl
  · show shX0_read_L52 g (nI 3) _ = _
    unfold shX0_read_L52
    rw [if_pos (by decide)]
theorem un_f : ∀ k, k < 3 → tb_UNTOLD k = nI ([999, 9, 0].getD k 0) := by decide
/-- the numbers that come of the lines -/
theorem pk_told {fr td mtd : Nat → Int32} (h : LSt fr td mtd) {k : Nat} (hk : k < 3) {x : Int32} (hx : x = tb_UNTOLD k) : (if 0 ≤ mtd k then mtd k else x) = fr k ∧ ∃ a : Nat, a ≤ [999, 9, 9].getD k 0 ∧ fr k = nI a := by
  rcases h k hk with ⟨h1, h2, h3⟩ | ⟨h1, h2, a, h3, h4, h5⟩
  · rw [h2, if_neg (by decide), hx, h3]
    refine ⟨rfl, [999, 9, 0].getD k 0, ?_, un_f k hk⟩
    have : k = 0 ∨ k = 1 ∨ k = 2 := by omega
    rcases this with rfl | rfl | rfl <;> decide
  · have hm : mst k ≤ 999 := (ml_f k hk).2.2.1
    rw [h2, h5, if_pos (nI_pos' (by omega))]
    exact ⟨rfl, a, h3, rfl⟩
theorem rj97 (x ts th f fp en nx kd wc pl : Int32) (told : Nat → Int32) : shX7_rules_j_97 x ts th f fp en nx kd wc pl told = some (x, ts, th, (if 0 ≤ told 0 then told 0 else 999), (if 0 ≤ told 1 then told 1 else 9), (if 0 ≤ told 2 then told 2 else 0), f, fp, en, nx, kd, wc, pl, told) := by
  have t0 : told (0 : Int32).toNatClampNeg = told 0 := rfl
  have t1 : told (1 : Int32).toNatClampNeg = told 1 := rfl
  have t2 : told (2 : Int32).toNatClampNeg = told 2 := rfl
  unfold shX7_rules_j_97 shX7_rules_j_119 shX7_rules_j_143 shX7_rules_j_166
  rw [t0, t1, t2]
  by_cases c0 : 0 ≤ told 0 <;> by_cases c1 : 0 ≤ told 1 <;> by_cases c2 : 0 ≤ told 2 <;> simp only [c0, c1, c2, ↓reduceIte]
theorem pu_rules {tl : Int32} {tb : Nat → Int32} {ms : Int32} {mt : Nat → Int32} (hT : IT tl tb ms mt) {bn : Nat → Int32} {salt dry rest : Int32} (hU : IU bn salt dry rest) {fk fp mf mfp : Int32} (hF : IFa fk fp mf mfp) {wd : Nat → Int32} (hW : IWd wd) (a th at' en men mnx mkd mwc mpl : Int32) (fr td mtd : Nat → Int32) :
    ∃ o o', shX6_rules a tl tb fk fp at' en bn fr td = some o ∧ shX7_rules a ms th salt dry rest mf mfp men mnx mkd mwc mpl mt wd mtd = some o' ∧ o.1 = o'.1 ∧ IT o.2.1 tb o'.2.1 mt ∧ IU o.2.2.2.2.2.2.1 o'.2.2.2.1 o'.2.2.2.2.1 o'.2.2.2.2.2.1 ∧ IFa o.2.2.1 o.2.2.2.1 o'.2.2.2.2.2.2.1 o'.2.2.2.2.2.2.2.1 := by
  have hT0 := hT
  obtain ⟨n, hn, rfl, rfl, hww⟩ := hT
  unfold shX6_rules shX7_rules shX3_length
  rcases in0 a (n := n) (by omega) with ha | ⟨e, he, rfl⟩
  · by_cases c : a < 0
    · rw [if_pos c, if_pos c]; exact ⟨_, _, rfl, rfl, rfl, hT0, hU, hF⟩
    · have c2 : ¬ a ≤ nI n := Int32.not_le.mpr (ha.resolve_left c)
      rw [if_neg c, if_neg c, bind_s, if_neg c2, if_neg c2]; exact ⟨_, _, rfl, rfl, rfl, hT0, hU, hF⟩
  · have c2 : nI e ≤ nI n := nI_le he (by omega)
    have he2 : e ≤ 200 := by omega
    rw [if_neg (nlt0 (by omega)), if_neg (nlt0 (by omega)), bind_s, if_pos c2, if_pos c2, nt_m mtd, bind_s]
    unfold shX0_read shX7_rules_j_60 shX3_clear
    rw [bg_c, bind_s]
    dsimp only
    rw [show (0 : Int32) = nI 0 from rfl, sb_c he hn tb (Nat.zero_le e)]
    have cs : scn isB tb e 0 = scn isB mt e 0 := scn_congr (Nat.zero_le e) he hww
    have hs := scn_b (P := isB) (w := mt) (e := e) (i := 0) (Nat.zero_le e)
    obtain ⟨y, -, y2, -⟩ := wd_both (s := scn isB mt e 0) (j := scn isL tb e (scn isB mt e 0)) (n := n) (w := tb) (w' := mt) (scn_b (P := isL) (w := tb) (e := e) (i := scn isB mt e 0) hs.2.1).1 (by have := (scn_b (P := isL) (w := tb) (e := e) (i := scn isB mt e 0) hs.2.1).2.1; omega) hn hW hww
    rw [scn_congr (P := isL) (w := tb) (w' := mt) hs.2.1 he hww] at y2
    obtain ⟨nx2, kd2, wc2, u1, -⟩ := tk_any he2 (Nat.zero_le e) rfl y2 mkd mwc mpl
    rw [u1, cs]
    simp only [bind_s]
    have hL : LSt (cpF fr tb_UNTOLD 3) (cpF td (fun _ => 0) 3) (cpF mtd (fun _ => -1) 3) := fun k hk => Or.inl ⟨cpF_at _ _ hk, cpF_at _ _ hk, cpF_at _ _ hk⟩
    have htn : tn (cpF td (fun _ => 0) 3) = 0 := by
      unfold tn
      rw [cpF_at td (fun _ => 0) (by decide : 0 < 3), cpF_at td (fun _ => 0) (by decide : 1 < 3), cpF_at td (fun _ => 0) (by decide : 2 < 3)]
      rfl
    have main := rl_both he hn hww hW (nI 0, -1, nI 0, nI e, cpF fr tb_UNTOLD 3, cpF td (fun _ => 0) 3) rfl (e - scn isB mt e 0) (scn isB mt e 0) 0 (Nat.le_refl _) (Nat.zero_le e) rfl _ _ _ hL nx2 kd2 wc2 (nI (scn isB mt e 0)) mkd mwc mpl u1
    rw [htn] at main
    have hIT : IT (nI 0) tb (nI 0) mt := ⟨0, by omega, rfl, rfl, fun j h => absurd h (Nat.not_lt_zero _)⟩
    rcases main with ⟨c, p, at2, fr', td', nx', kd', wc', pc', mtd', r1, r2⟩ | ⟨x, at2, fr', td', nx', kd', wc', pc', mtd', r1, r2, hL'⟩
    · rw [show ((0 : Int32)) = nI 0 from rfl] at r1 r2
      rw [r1, r2]
      exact ⟨_, _, rfl, rfl, rfl, hIT, hU, rfl, rfl⟩
    · rw [show ((0 : Int32)) = nI 0 from rfl] at r1 r2
      rw [r1, r2]
      simp only [bind_s, Sum.elim_inr]
      unfold shX0_read_j_49 shX0_read_j_78
      rw [cy_c bn fr']
      simp only [bind_s]
      rw [rj97]
      obtain ⟨q0, a0, qa0, qb0⟩ := pk_told hL' (k := 0) (by decide) (x := 999) rfl
      obtain ⟨q1, a1, qa1, qb1⟩ := pk_told hL' (k := 1) (by decide) (x := 9) rfl
      obtain ⟨q2, a2, qa2, qb2⟩ := pk_told hL' (k := 2) (by decide) (x := 0) rfl
      rw [q0, q1, q2]
      refine ⟨_, _, rfl, rfl, rfl, hIT, ⟨cpF_at (k := 0) bn fr' (by decide), cpF_at (k := 1) bn fr' (by decide), cpF_at (k := 2) bn fr' (by decide), a0, a1, a2, qa0, qa1, qa2, qb0, qb1, qb2⟩, rfl, rfl⟩
