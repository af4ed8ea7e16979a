/-! plan: the depths that are laid -/
theorem lex_lt {x y : Nat → Nat} (hx : ∀ v, x v ≤ 4) (hy : ∀ v, y v ≤ 4) {u : Nat} (h1 : 1 ≤ u) (h2 : u ≤ 7) (he : ∀ v, 1 ≤ v → v < u → y v = x v) (hl : x u < y u) : cd x < cd y := by
  have a1 := hx 1; have a2 := hx 2; have a3 := hx 3; have a4 := hx 4; have a5 := hx 5; have a6 := hx 6; have a7 := hx 7
  have b1 := hy 1; have b2 := hy 2; have b3 := hy 3; have b4 := hy 4; have b5 := hy 5; have b6 := hy 6; have b7 := hy 7
  unfold cd
  rcases in7 h1 h2 with rfl | rfl | rfl | rfl | rfl | rfl | rfl
  · omega
  · have e1 := he 1 (by decide) (by decide); omega
  · have e1 := he 1 (by decide) (by decide); have e2 := he 2 (by decide) (by decide); omega
  · have e1 := he 1 (by decide) (by decide); have e2 := he 2 (by decide) (by decide); have e3 := he 3 (by decide) (by decide); omega
  · have e1 := he 1 (by decide) (by decide); have e2 := he 2 (by decide) (by decide); have e3 := he 3 (by decide) (by decide); have e4 := he 4 (by decide) (by decide); omega
  · have e1 := he 1 (by decide) (by decide); have e2 := he 2 (by decide) (by decide); have e3 := he 3 (by decide) (by decide); have e4 := he 4 (by decide) (by decide); have e5 := he 5 (by decide) (by decide); omega
  · have e1 := he 1 (by decide) (by decide); have e2 := he 2 (by decide) (by decide); have e3 := he 3 (by decide) (by decide); have e4 := he 4 (by decide) (by decide); have e5 := he 5 (by decide) (by decide); have e6 := he 6 (by decide) (by decide); omega
theorem lex_eq {x y : Nat → Nat} (he : ∀ v, 1 ≤ v → v ≤ 7 → y v = x v) : cd x = cd y := by
  unfold cd
  rw [he 1 (by decide) (by decide), he 2 (by decide) (by decide), he 3 (by decide) (by decide), he 4 (by decide) (by decide), he 5 (by decide) (by decide), he 6 (by decide) (by decide), he 7 (by decide) (by decide)]
/-- a best vector on a set, split off at its first village -/
theorem mt_of {A S v l m : Nat} {g : Nat → Nat → Nat} (hS : S < 128) (h1 : 1 ≤ v) (h2 : v ≤ 7) (ht : tb S v = true) (hA : tb A v = true) (g0 : ∀ v, g v 0 = 0) (hM : MX A g S l m) (hO : ∀ q', q' ≤ l → NX A (clr S v) q' ∨ ∃ m, MX A g (clr S v) q' m) {y : Nat → Nat} (y1 : Vx A y) (y2 : mk y = S) (y3 : sm y = l) (y4 : wsum g y = m) : Mt A g (clr S v) l v m (y v) ∧ ∀ m', MX A g (clr S v) (l - y v) m' → Vx A (nupd y v 0) ∧ mk (nupd y v 0) = clr S v ∧ sm (nupd y v 0) = l - y v ∧ wsum g (nupd y v 0) = m' := by
  obtain ⟨o1, o2, o3, o4, o5, o6⟩ := off_v (A := A) hS h1 h2 ht g0 y1 y2
  have key : ∀ m', MX A g (clr S v) (l - y v) m' → m' + g v (y v) = m ∧ wsum g (nupd y v 0) = m' := fun m' h' => by
    have a := h'.2 (nupd y v 0) o3 o4 (by omega)
    obtain ⟨⟨x, x1, x2, x3, x4⟩, -⟩ := h'
    obtain ⟨n1, n2, n3, n4, -⟩ := on_v (d := y v) hS h1 h2 ht hA g0 x1 x2 o1 o2
    have b := hM.2 (nupd x v (y v)) n1 n2 (by omega)
    omega
  rcases hO (l - y v) (by omega) with hN | ⟨m9, h9⟩
  · exact absurd (by omega) (hN (nupd y v 0) o3 o4)
  · exact ⟨⟨o1, o2, by omega, m9, h9, (key m9 h9).1⟩, fun m' h' => ⟨o3, o4, by omega, (key m' h').2⟩⟩
theorem ld_c {A S q m : Nat} {g : Nat → Nat → Nat} {ga wo : Nat → Int64} (hA : A < 128) (hS : S < 128) (hsub : sub S A = true) (hq : q ≤ 28) (hg : ∀ v d, g v d ≤ 10485750000) (g0 : ∀ v, g v 0 = 0) (hga : ∀ v, 1 ≤ v → v ≤ 7 → tb A v = true → ∀ d, 1 ≤ d → d ≤ 4 → ga (5 * v + d) = lN (g v d)) (hO : ∀ S', S' < 128 → sub S' A = true → ∀ q', q' ≤ q → OKw A g wo S' q') (hM : MX A g S q m) (row : Nat → Int32) :
    ∃ row' x, shX1_layDepths (nI S) (nI q) ga wo row = some row' ∧ Vx A x ∧ mk x = S ∧ sm x = q ∧ wsum g x = m ∧ (∀ y, Vx A y → mk y = S → sm y = q → wsum g y = m → cd x ≤ cd y) ∧ (∀ v, 1 ≤ v → v ≤ 7 → row' v = nI (x v)) := by
  have key := lp_inv (f := fun s : Int32 × Int32 × Int32 × (Nat → Int32) => shX1_layDepths_L9 ga wo s.1 s.2.1 s.2.2.1 s.2.2.2)
    (fun i s => ∃ (l S' m' : Nat) (z : Nat → Nat), s.1 = nI l ∧ s.2.1 = nI S' ∧ s.2.2.1 = nI i ∧ S' < 128 ∧ sub S' A = true ∧ (∀ v, 1 ≤ v → v ≤ 7 → tb S' v = (tb S v && decide (i ≤ v))) ∧ MX A g S' l m' ∧ Vx A z ∧ (∀ v, z v ≠ 0 → v < i) ∧ sm z + l = q ∧ wsum g z + m' = m ∧ (∀ v, 1 ≤ v → v < i → v ≤ 7 → (tb S v = !decide (z v = 0))) ∧
      (∀ y, Vx A y → mk y = S → sm y = q → wsum g y = m → (∃ u, 1 ≤ u ∧ u < i ∧ u ≤ 7 ∧ (∀ v, 1 ≤ v → v < u → y v = z v) ∧ z u < y u) ∨ ((∀ v, 1 ≤ v → v < i → y v = z v) ∧ ∃ y', Vx A y' ∧ mk y' = S' ∧ sm y' = l ∧ wsum g y' = m' ∧ ∀ v, i ≤ v → y' v = y v)) ∧ (∀ v, 1 ≤ v → v < i → s.2.2.2 v = nI (z v)))
    (fun r => ∃ x, Vx A x ∧ mk x = S ∧ sm x = q ∧ wsum g x = m ∧ (∀ y, Vx A y → mk y = S → sm y = q → wsum g y = m → cd x ≤ cd y) ∧ (∀ v, 1 ≤ v → v ≤ 7 → r v = nI (x v))) 7 1 (nI q, nI S, 1, row)
    ⟨q, S, m, fun _ => 0, rfl, rfl, rfl, hS, hsub, fun v h1 h2 => by simp [h1], hM, Vx_0, fun v h => absurd rfl h, by rw [sm_0 (fun _ _ _ => rfl)]; omega, by rw [ws_0 g0 (fun _ _ _ => rfl)]; omega, fun v h1 h2 => by omega, fun y y1 y2 y3 y4 => Or.inr ⟨fun v h1 h2 => by omega, y, y1, y2, y3, y4, fun _ _ => rfl⟩, fun v h1 h2 => by omega⟩
    (fun i s hi1 hi ⟨l, S', m', z, a1, a2, a3, a4, a5, a6, a7, a8, a9, a10, a11, a12, a13, a14⟩ => by
      obtain ⟨s1, s2, s3, rw'⟩ := s
      dsimp only at a1 a2 a3 a14
      subst a1 a2 a3
      obtain ⟨u, rfl⟩ : ∃ u, i = u + 1 := ⟨i - 1, by omega⟩
      have z0 : z (u + 1) = 0 := Classical.byContradiction fun h => by have := a9 (u + 1) h; omega
      have ti := a6 (u + 1) (by omega) (by omega)
      have ti' : tb S' (u + 1) = tb S (u + 1) := by rw [ti]; simp
      by_cases c : tb S' (u + 1) = true
      · have hAv : tb A (u + 1) = true := (bi9 S' a4 A hA).mp a5 u (by omega) c
        obtain ⟨b1, b2, b3⟩ := bi7 S' a4 u (by omega)
        have hsub' : sub (clr S' (u + 1)) A = true := (bi9 _ b1 A hA).mpr (fun w hw gw => by
          rw [bi8 S' a4 u (by omega) w hw] at gw
          exact (bi9 S' a4 A hA).mp a5 w hw (by simp at gw; exact gw.1))
        have hO1 := hO S' a4 a5
        have hO2 := hO _ b1 hsub'
        have hlq : l ≤ q := by omega
        have hd := fun q' (h : q' ≤ l) => OKw_d (hO2 q' (by omega))
        have hmb := MX_b hg a7
        have hex : ∃ d, Mt A g (clr S' (u + 1)) l (u + 1) m' d := by
          obtain ⟨⟨x, x1, x2, x3, x4⟩, -⟩ := id a7
          exact ⟨_, (mt_of a4 (by omega) (by omega) c hAv g0 a7 hd x1 x2 x3 x4).1⟩
        obtain ⟨d, ⟨d1, d2, d3, m2, d4, d5⟩, dl, de⟩ := ld_1 (v := u + 1) b1 (by omega) (by omega) hg (hga (u + 1) (by omega) (by omega) hAv) (fun q' h => hO2 q' (by omega)) hmb hex
        have hw : wo (29 * S' + l) = lN m' := by
          rcases hO1 l hlq with ⟨_, hN⟩ | ⟨m9, h9, h9'⟩
          · obtain ⟨⟨x, x1, x2, x3, x4⟩, -⟩ := id a7
            exact absurd x3 (hN x x1 x2)
          · rw [h9, MX_1 h9' a7]
        have e1 : (nI S' * (29 : Int32)) + nI l = nI (29 * S' + l) := by rw [show (29 : Int32) = nI 29 from rfl, pk_mul, nI_add, Nat.mul_comm]
        have smz := sm_upd (x := z) (v := u + 1) (d := d) (by omega) (by omega)
        have wsz := ws_upd (g := g) (x := z) (v := u + 1) (d := d) (by omega) (by omega)
        rw [z0] at smz
        rw [z0, g0] at wsz
        refine ⟨(nI (l - d), nI (clr S' (u + 1)), nI (u + 1 + 1), upd (upd rw' (u + 1) 0) (u + 1) (nI d)), ?_, l - d, clr S' (u + 1), m2, nupd z (u + 1) d, rfl, rfl, rfl, b1, hsub', fun v g1 g2 => ?_, d4, Vx_upd a8 d2 (fun _ => ⟨by omega, by omega, hAv⟩), fun v h => ?_, by omega, by omega, fun v g1 g2 g3 => ?_, fun y y1 y2 y3 y4 => ?_, fun v g1 g2 => ?_⟩
        · show shX1_layDepths_L9 ga wo (nI l) (nI S') (nI (u + 1)) rw' = _
          unfold shX1_layDepths_L9 shX1_layDepths_k9_84 shX1_bit
          have hc : ¬ (nI S' &&& bI (nI (u + 1))) = 0 := fun g => by rw [(bi1 S' a4 u (by omega)).mp g] at c; exact absurd c (by decide)
          rw [if_neg (show ¬ (8 : Int32) ≤ nI (u + 1) from nI_ge (b := 8) (by omega) (by decide)), gd_nI (k := u + 1) (by omega) (by decide), cl (n := u + 1) (by omega)]
          simp only [bind_s]
          rw [if_neg hc, e1, gd_nI (k := 29 * S' + l) (by omega) (by decide), cl (n := 29 * S' + l) (by omega), hw, bi2 S' a4 u (by omega), de]
          simp only [bind_s]
          rw [upd_s, pk_sub d3, nI_1]
        · obtain ⟨w, rfl⟩ : ∃ w, v = w + 1 := ⟨v - 1, by omega⟩
          rw [bi8 S' a4 u (by omega) w (by omega), a6 (w + 1) g1 g2]
          by_cases e : w = u
          · subst e; simp
          · have : (decide (u + 1 ≤ w + 1)) = decide (u + 1 + 1 ≤ w + 1) := by
              by_cases h : u + 1 ≤ w + 1
              · simp [h, show u + 1 + 1 ≤ w + 1 by omega]
              · simp [h, show ¬ u + 1 + 1 ≤ w + 1 by omega]
            rw [this]; simp [e]
        · by_cases e : v = u + 1
          · omega
          · rw [nupd_n e] at h; have := a9 v h; omega
        · by_cases e : v = u + 1
          · subst e
            rw [nupd_s, ← ti', c]; simp; omega
          · rw [nupd_n e]; exact a12 v g1 (by omega) g3
        · rcases a13 y y1 y2 y3 y4 with ⟨w, w1, w2, w3, w4, w5⟩ | ⟨w1, y', p1, p2, p3, p4, p5⟩
          · refine Or.inl ⟨w, w1, by omega, w3, fun v g1 g2 => ?_, ?_⟩
            · rw [nupd_n (by omega)]; exact w4 v g1 g2
            · rw [nupd_n (by omega)]; exact w5
          · obtain ⟨t1, t2⟩ := mt_of a4 (by omega) (by omega) c hAv g0 a7 hd p1 p2 p3 p4
            have yv := p5 (u + 1) (Nat.le_refl _)
            by_cases e : y' (u + 1) = d
            · right
              rw [e] at t2
              obtain ⟨r1, r2, r3, r4⟩ := t2 m2 d4
              refine ⟨fun v g1 g2 => ?_, nupd y' (u + 1) 0, r1, r2, r3, r4, fun v g1 => ?_⟩
              · by_cases e2 : v = u + 1
                · subst e2; rw [nupd_s, ← yv, e]
                · rw [nupd_n e2]; exact w1 v g1 (by omega)
              · rw [nupd_n (by omega)]; exact p5 v (by omega)
            · left
              have : ¬ y' (u + 1) < d := fun h => dl _ h t1
              refine ⟨u + 1, by omega, by omega, by omega, fun v g1 g2 => ?_, ?_⟩
              · rw [nupd_n (by omega)]; exact w1 v g1 g2
              · rw [nupd_s, ← yv]; omega
        · dsimp only
          by_cases e : v = u + 1
          · subst e; rw [upd_s, nupd_s]
          · rw [upd_n e, upd_n e, nupd_n e]; exact a14 v g1 (by omega)
      · refine ⟨(nI l, nI S', nI (u + 1 + 1), upd rw' (u + 1) 0), ?_, l, S', m', z, rfl, rfl, rfl, a4, a5, fun v g1 g2 => ?_, a7, a8, fun v h => by have := a9 v h; omega, a10, a11, fun v g1 g2 g3 => ?_, fun y y1 y2 y3 y4 => ?_, fun v g1 g2 => ?_⟩
        · show shX1_layDepths_L9 ga wo (nI l) (nI S') (nI (u + 1)) rw' = _
          unfold shX1_layDepths_L9 shX1_layDepths_k9_84 shX1_bit
          have hc : (nI S' &&& bI (nI (u + 1))) = 0 := (bi1 S' a4 u (by omega)).mpr (by simpa using c)
          rw [if_neg (show ¬ (8 : Int32) ≤ nI (u + 1) from nI_ge (b := 8) (by omega) (by decide)), gd_nI (k := u + 1) (by omega) (by decide), cl (n := u + 1) (by omega)]
          simp only [bind_s]
          rw [if_pos hc, nI_1]
        · by_cases e : v = u + 1
          · subst e
            simp only [Bool.not_eq_true] at c
            rw [c]; simp
          · rw [a6 v g1 g2]
            by_cases h : u + 1 ≤ v
            · simp [h, show u + 1 + 1 ≤ v by omega]
            · simp [h, show ¬ u + 1 + 1 ≤ v by omega]
        · by_cases e : v = u + 1
          · subst e
            simp only [Bool.not_eq_true] at c
            rw [← ti', c, z0]; rfl
          · exact a12 v g1 (by omega) g3
        · rcases a13 y y1 y2 y3 y4 with ⟨w, w1, w2, w3, w4, w5⟩ | ⟨w1, y', p1, p2, p3, p4, p5⟩
          · exact Or.inl ⟨w, w1, by omega, w3, w4, w5⟩
          · refine Or.inr ⟨fun v g1 g2 => ?_, y', p1, p2, p3, p4, fun v g1 => p5 v (by omega)⟩
            by_cases e : v = u + 1
            · subst e
              have hb := mk_tb y (v := u + 1) (by omega) (by omega)
              simp only [Bool.not_eq_true] at c
              rw [y2, ← ti', c] at hb
              rw [z0]
              simpa using hb.symm
            · exact w1 v g1 (by omega)
        · dsimp only
          by_cases e : v = u + 1
          · subst e; rw [upd_s, z0]; rfl
          · rw [upd_n e]; exact a14 v g1 (by omega))
    (fun s ⟨l, S', m', z, a1, a2, a3, a4, a5, a6, a7, a8, a9, a10, a11, a12, a13, a14⟩ => by
      obtain ⟨s1, s2, s3, rw'⟩ := s
      dsimp only at a1 a2 a3 a14
      subst a1 a2 a3
      have hS0 : S' = 0 := (bi10 S' a4).2.1.mpr (fun v hv => by
        rw [a6 (v + 1) (by omega) (by omega)]
        simp [show ¬ 1 + 7 ≤ v + 1 by omega])
      subst hS0
      obtain ⟨⟨x, x1, x2, x3, x4⟩, -⟩ := a7
      have l0 : l = 0 := by rw [← x3]; exact sm_0 (mk_0 x2)
      have m0 : m' = 0 := by rw [← x4]; exact ws_0 g0 (mk_0 x2)
      subst l0 m0
      refine ⟨rw', ?_, z, a8, ?_, by omega, by omega, fun y y1 y2 y3 y4 => ?_, fun v h1 h2 => a14 v h1 (by omega)⟩
      · show shX1_layDepths_L9 ga wo (nI 0) (nI 0) (nI (1 + 7)) rw' = _
        unfold shX1_layDepths_L9
        rw [if_pos (by decide)]
      · exact tb_ext (mk_lt z) hS (fun v h1 h2 => by rw [mk_tb z h1 h2, a12 v h1 (by omega) h2])
      · rcases a13 y y1 y2 y3 y4 with ⟨w, w1, w2, w3, w4, w5⟩ | ⟨w1, -⟩
        · exact Nat.le_of_lt (lex_lt (Vx_le a8) (Vx_le y1) w1 w3 w4 w5)
        · exact Nat.le_of_eq (lex_eq (fun v h1 h2 => w1 v h1 (by omega))))
  obtain ⟨r, k1, x, k2⟩ := key
  refine ⟨r, x, ?_, k2⟩
  unfold shX1_layDepths shX1_layDepths_j_90
  rw [k1, bind_s]
