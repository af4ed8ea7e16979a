/-! plan: worths of all sets -/
theorem OKw_c {A : Nat} {g : Nat → Nat → Nat} {wo wo' : Nat → Int64} {S q : Nat} (h : OKw A g wo S q) (e : wo' (29 * S + q) = wo (29 * S + q)) : OKw A g wo' S q := by
  unfold OKw
  rw [e]; exact h
theorem OKw_d {A : Nat} {g : Nat → Nat → Nat} {wo : Nat → Int64} {S q : Nat} (h : OKw A g wo S q) : NX A S q ∨ ∃ m, MX A g S q m := h.imp (fun h => h.2) (fun ⟨m, _, h⟩ => ⟨m, h⟩)
theorem gb_ok {A S v q : Nat} {g : Nat → Nat → Nat} {b : Int64} (hS : S < 128) (h1 : 1 ≤ v) (h2 : v ≤ 7) (ht : tb S v = true) (hA : tb A v = true) (g0 : ∀ v, g v 0 = 0) (hO : ∀ q', q' ≤ q → NX A (clr S v) q' ∨ ∃ m, MX A g (clr S v) q' m) (h : GB A g (clr S v) v q (Nat.min 4 q + 1) b) : (b = -1 ∧ NX A S q) ∨ ∃ m, b = lN m ∧ MX A g S q m := by
  have hmin : Nat.min 4 q ≤ 4 ∧ Nat.min 4 q ≤ q ∧ (Nat.min 4 q = 4 ∨ Nat.min 4 q = q) := by
    have : Nat.min 4 q = min 4 q := rfl
    rw [this]; omega
  generalize Nat.min 4 q = K at *
  rcases h with ⟨hb, hall⟩ | ⟨m, d, m', hb, d1, d2, hM, hm, hall⟩
  · refine Or.inl ⟨hb, fun y y1 y2 y3 => ?_⟩
    obtain ⟨o1, o2, o3, o4, o5, o6⟩ := off_v (A := A) hS h1 h2 ht g0 y1 y2
    exact hall (y v) o1 (by omega) (nupd y v 0) o3 o4 (by omega)
  · refine Or.inr ⟨m, hb, ?_, fun y y1 y2 y3 => ?_⟩
    · obtain ⟨⟨x, x1, x2, x3, x4⟩, -⟩ := hM
      obtain ⟨n1, n2, n3, n4, -⟩ := on_v (d := d) hS h1 h2 ht hA g0 x1 x2 d1 (by omega)
      exact ⟨nupd x v d, n1, n2, by omega, by omega⟩
    · obtain ⟨o1, o2, o3, o4, o5, o6⟩ := off_v (A := A) hS h1 h2 ht g0 y1 y2
      rcases hO (q - y v) (by omega) with hN | ⟨m9, h9⟩
      · exact absurd (by omega) (hN (nupd y v 0) o3 o4)
      · have a := h9.2 (nupd y v 0) o3 o4 (by omega)
        have b := hall (y v) o1 (by omega) m9 h9
        omega
theorem wt_c {A S q0 : Nat} {g : Nat → Nat → Nat} {ga wo : Nat → Int64} (hA : A < 128) (hS : S < 128) (h0 : S ≠ 0) (hsub : sub S A = true) (hq0 : q0 ≤ 28) (hg : ∀ v d, g v d ≤ 10485750000) (g0 : ∀ v, g v 0 = 0) (hga : ∀ v, 1 ≤ v → v ≤ 7 → tb A v = true → ∀ d, 1 ≤ d → d ≤ 4 → ga (5 * v + d) = lN (g v d)) (hO : ∀ S', S' < S → sub S' A = true → ∀ q, q ≤ q0 → OKw A g wo S' q) :
    ∃ wo', shX1_weighSet (nI S) (nI q0) ga wo = some wo' ∧ (∀ q, q ≤ q0 → OKw A g wo' S q) ∧ (∀ j, j < 29 * S → wo' j = wo j) := by
  obtain ⟨v, v1, v2, vt, vf, vo⟩ := fo_c hS h0
  obtain ⟨u, rfl⟩ : ∃ u, v = u + 1 := ⟨v - 1, by omega⟩
  obtain ⟨b1, b2, b3⟩ := bi7 S hS u (by omega)
  have hAv : tb A (u + 1) = true := (bi9 S hS A hA).mp hsub u (by omega) vt
  have hsub' : sub (clr S (u + 1)) A = true := (bi9 _ b1 A hA).mpr (fun w hw gw => by
    rw [bi8 S hS u (by omega) w hw] at gw
    exact (bi9 S hS A hA).mp hsub w hw (by simp at gw; exact gw.1))
  have hO' := hO _ (b3 vt).1 hsub'
  have key := lp_inv (f := fun s : Int32 × (Nat → Int64) => shX1_weighSet_L18 (nI S) (nI q0) ga (nI (u + 1)) (bI (nI (u + 1))) s.1 s.2) (fun i s => s.1 = nI i ∧ (∀ q, q < i → OKw A g s.2 S q) ∧ (∀ j, j < 29 * S → s.2 j = wo j)) (fun r => (∀ q, q ≤ q0 → OKw A g r S q) ∧ (∀ j, j < 29 * S → r j = wo j)) (q0 + 1) 0 (0, wo) ⟨rfl, fun p h => absurd h (Nat.not_lt_zero _), fun _ _ => rfl⟩ (fun i s _ hi ⟨h1, h2, h3⟩ => by
    obtain ⟨x, w⟩ := s
    dsimp only at h1 h2 h3
    subst h1
    have hOi : ∀ q, q ≤ q0 → OKw A g w (clr S (u + 1)) q := fun q hq => OKw_c (hO' q hq) (h3 _ (by have := (b3 vt).1; omega))
    obtain ⟨b, r1, r2⟩ := gr_c (v := u + 1) b1 v2 (q := i) (by omega) hq0 hg (hga (u + 1) v1 v2 hAv) hOi
    have r3 := gb_ok hS v1 v2 vt hAv g0 (fun q' hq' => OKw_d (hOi q' (by omega))) r2
    have e1 : (nI S * (29 : Int32)) + nI i = nI (29 * S + i) := by rw [show (29 : Int32) = nI 29 from rfl, pk_mul, nI_add, Nat.mul_comm]
    refine ⟨(nI (i + 1), vp_updL w (29 * S + i) b), ?_, rfl, fun q hq => ?_, fun j hj => ?_⟩
    · show shX1_weighSet_L18 (nI S) (nI q0) ga (nI (u + 1)) (bI (nI (u + 1))) (nI i) w = _
      unfold shX1_weighSet_L18
      rw [if_neg (nlt (a := q0) (b := i) (by omega) (by omega)), bi2 S hS u (by omega), r1, bind_s, e1, gd_nI (k := 29 * S + i) (by omega) (by decide), cl (by omega), bind_s, nI_1]
    · dsimp only
      by_cases c : q = i
      · subst c
        unfold OKw
        rw [pk_uLs]
        exact r3
      · exact OKw_c (h2 q (by omega)) (pk_uLn (by omega))
    · dsimp only
      rw [pk_uLn (by omega)]; exact h3 j hj) (fun s ⟨h1, h2, h3⟩ => by
    obtain ⟨x, w⟩ := s
    dsimp only at h1 h2 h3
    subst h1
    refine ⟨w, ?_, fun q hq => h2 q (by omega), h3⟩
    show shX1_weighSet_L18 (nI S) (nI q0) ga (nI (u + 1)) (bI (nI (u + 1))) (nI (0 + (q0 + 1))) w = _
    unfold shX1_weighSet_L18
    rw [if_pos (nI_lt (by omega) (by omega))])
  obtain ⟨r, k1, k2, k3⟩ := key
  refine ⟨r, ?_, k2, k3⟩
  unfold shX1_weighSet shX1_weighSet_j_51 shX1_bit
  rw [vo, bind_s, bind_s, k1, bind_s]
theorem mk_0 {y : Nat → Nat} (h : mk y = 0) : ∀ v, 1 ≤ v → v ≤ 7 → y v = 0 := fun v h1 h2 => by
  have hb := mk_tb y h1 h2
  rw [h] at hb
  unfold tb at hb
  rw [Nat.zero_testBit] at hb
  simpa using hb.symm
theorem sm_0 {y : Nat → Nat} (h : ∀ v, 1 ≤ v → v ≤ 7 → y v = 0) : sm y = 0 := by
  unfold sm
  rw [h 1 (by decide) (by decide), h 2 (by decide) (by decide), h 3 (by decide) (by decide), h 4 (by decide) (by decide), h 5 (by decide) (by decide), h 6 (by decide) (by decide), h 7 (by decide) (by decide)]
theorem ws_0 {g : Nat → Nat → Nat} (g0 : ∀ v, g v 0 = 0) {y : Nat → Nat} (h : ∀ v, 1 ≤ v → v ≤ 7 → y v = 0) : wsum g y = 0 := sm_0 (fun v h1 h2 => by rw [h v h1 h2, g0])
theorem mk_z : mk (fun _ => 0) = 0 := by decide
theorem wd_c {A q0 : Nat} {g : Nat → Nat → Nat} {ga wo : Nat → Int64} (hA : A < 128) (hq0 : q0 ≤ 28) (hg : ∀ v d, g v d ≤ 10485750000) (g0 : ∀ v, g v 0 = 0) (hga : ∀ v, 1 ≤ v → v ≤ 7 → tb A v = true → ∀ d, 1 ≤ d → d ≤ 4 → ga (5 * v + d) = lN (g v d)) :
    ∃ wo', shX1_weighDepths (nI q0) (nI A) ga wo = some wo' ∧ ∀ S, S ≤ A → sub S A = true → ∀ q, q ≤ q0 → OKw A g wo' S q := by
  have k1 := lp_inv (f := fun s : Int32 × (Nat → Int64) => shX1_weighDepths_L2 (nI q0) s.1 s.2) (fun i s => s.1 = nI i ∧ ∀ q, q < i → OKw A g s.2 0 q) (fun r => ∀ q, q ≤ q0 → OKw A g r 0 q) (q0 + 1) 0 (0, wo) ⟨rfl, fun p h => absurd h (Nat.not_lt_zero _)⟩ (fun i s _ hi ⟨h1, h2⟩ => by
    obtain ⟨x, w⟩ := s
    dsimp only at h1 h2
    subst h1
    refine ⟨(nI (i + 1), vp_updL w i (if i = 0 then 0 else -1)), ?_, rfl, fun q hq => ?_⟩
    · show shX1_weighDepths_L2 (nI q0) (nI i) w = _
      unfold shX1_weighDepths_L2 shX1_weighDepths_k2_23
      rw [if_neg (nlt (a := q0) (b := i) (by omega) (by omega)), gd_nI (k := i) (by omega) (by decide), cl (by omega), nI_1]
      by_cases c : i = 0
      · subst c; rfl
      · rw [if_pos (ne_0 (by omega) (by omega)), if_neg c]; rfl
    · dsimp only
      by_cases c : q = i
      · subst c
        unfold OKw
        rw [show 29 * 0 + q = q by omega, pk_uLs]
        by_cases c0 : q = 0
        · subst c0
          rw [if_pos rfl]
          refine Or.inr ⟨0, by decide, ⟨fun _ => 0, Vx_0, mk_z, rfl, ws_0 g0 (fun _ _ _ => rfl)⟩, fun y y1 y2 y3 => ?_⟩
          rw [ws_0 g0 (mk_0 y2)]; exact Nat.le_refl 0
        · rw [if_neg c0]
          refine Or.inl ⟨rfl, fun y y1 y2 y3 => ?_⟩
          rw [sm_0 (mk_0 y2)] at y3; omega
      · exact OKw_c (h2 q (by omega)) (pk_uLn (by omega))) (fun s ⟨h1, h2⟩ => by
    obtain ⟨x, w⟩ := s
    dsimp only at h1 h2
    subst h1
    refine ⟨w, ?_, fun q hq => h2 q (by omega)⟩
    show shX1_weighDepths_L2 (nI q0) (nI (0 + (q0 + 1))) w = _
    unfold shX1_weighDepths_L2
    rw [if_pos (nI_lt (by omega) (by omega))])
  obtain ⟨w1, q1, q2⟩ := k1
  have k2 := lp_inv (f := fun s : Int32 × (Nat → Int64) => shX1_weighDepths_L32 (nI q0) (nI A) ga s.1 s.2) (fun i s => s.1 = nI i ∧ ∀ S, S < i → sub S A = true → ∀ q, q ≤ q0 → OKw A g s.2 S q) (fun r => ∀ S, S ≤ A → sub S A = true → ∀ q, q ≤ q0 → OKw A g r S q) A 1 (1, w1) ⟨rfl, fun S h _ q hq => by
      have : S = 0 := by omega
      subst this
      exact q2 q hq⟩ (fun i s hi1 hi ⟨h1, h2⟩ => by
    obtain ⟨x, w⟩ := s
    dsimp only at h1 h2
    subst h1
    by_cases c : sub i A = true
    · obtain ⟨w', m1, m2, m3⟩ := wt_c hA (S := i) (by omega) (by omega) c hq0 hg g0 hga h2
      refine ⟨(nI (i + 1), w'), ?_, rfl, fun S hS hsub q hq => ?_⟩
      · show shX1_weighDepths_L32 (nI q0) (nI A) ga (nI i) w = _
        unfold shX1_weighDepths_L32 shX1_isAdmitted shX1_weighDepths_k32_54
        rw [if_neg (nlt (a := A) (b := i) (by omega) (by omega)), if_neg (not_not_intro ((bi6 i (by omega) A hA).mpr c)), bind_s, i10, m1, bind_s, nI_1]
      · dsimp only
        by_cases e : S = i
        · rw [e]; exact m2 q hq
        · exact OKw_c (h2 S (by omega) hsub q hq) (m3 _ (by omega))
    · refine ⟨(nI (i + 1), w), ?_, rfl, fun S hS hsub q hq => ?_⟩
      · show shX1_weighDepths_L32 (nI q0) (nI A) ga (nI i) w = _
        unfold shX1_weighDepths_L32 shX1_isAdmitted shX1_weighDepths_k32_54
        rw [if_neg (nlt (a := A) (b := i) (by omega) (by omega)), if_pos (fun g => c ((bi6 i (by omega) A hA).mp g)), bind_s, i00, nI_1]
      · dsimp only
        by_cases e : S = i
        · rw [e] at hsub; exact absurd hsub c
        · exact h2 S (by omega) hsub q hq) (fun s ⟨h1, h2⟩ => by
    obtain ⟨x, w⟩ := s
    dsimp only at h1 h2
    subst h1
    refine ⟨w, ?_, fun S hS => h2 S (by omega)⟩
    show shX1_weighDepths_L32 (nI q0) (nI A) ga (nI (1 + A)) w = _
    unfold shX1_weighDepths_L32
    rw [if_pos (nI_lt (by omega) (by omega))])
  obtain ⟨w2, r1, r2⟩ := k2
  refine ⟨w2, ?_, r2⟩
  unfold shX1_weighDepths shX1_weighDepths_j_30 shX1_weighDepths_j_60
  rw [q1, bind_s, r1, bind_s]
/-! plan: the first depths of the greatest worth -/
def Mt (A : Nat) (g : Nat → Nat → Nat) (S' l v m d : Nat) : Prop := 1 ≤ d ∧ d ≤ 4 ∧ d ≤ l ∧ ∃ m', MX A g S' (l - d) m' ∧ m' + g v d = m
theorem ld_1 {A S' l v m : Nat} {g : Nat → Nat → Nat} {ga wo : Nat → Int64} (hS : S' < 128) (h2 : v ≤ 7) (hl : l ≤ 28) (hg : ∀ v d, g v d ≤ 10485750000) (hga : ∀ d, 1 ≤ d → d ≤ 4 → ga (5 * v + d) = lN (g v d)) (hO : ∀ q, q ≤ l → OKw A g wo S' q) (hm : m ≤ 73400250000) (hex : ∃ d, Mt A g S' l v m d) : ∃ d, Mt A g S' l v m d ∧ (∀ d', d' < d → ¬ Mt A g S' l v m d') ∧ shX1_leastDepth (nI S') (nI l) (nI v) (lN m) ga wo = some (nI d) := by
  obtain ⟨d, hd, hl'⟩ := pk_least _ hex
  refine ⟨d, hd, hl', ?_⟩
  obtain ⟨d1, d2, d3, m', hm', he⟩ := hd
  have ww : ∀ i, 1 ≤ i → i ≤ 4 → i ≤ l → ∃ o, shX1_worthWith (nI S') (nI (l - i)) (nI v) (nI i) ga wo = some o ∧ (o = lN m ↔ Mt A g S' l v m i) := fun i i1 i2 i3 => by
    rcases ww_c (A := A) (S := S') (v := v) (q := l - i) (d := i) (g := g) (ga := ga) (wo := wo) hS h2 i2 (by omega) hg (hga i i1 i2) (hO _ (by omega)) with ⟨w1, w2⟩ | ⟨m1, w2, w1⟩
    · refine ⟨_, w1, fun h => absurd h.symm (lN_m1 (by omega)), fun ⟨_, _, _, m9, h9, _⟩ => ?_⟩
      obtain ⟨⟨y, y1, y2, y3, -⟩, -⟩ := h9
      exact absurd y3 (w2 y y1 y2)
    · have hb := MX_b hg w2
      have hgb := hg v i
      refine ⟨_, w1, fun h => ⟨i1, i2, i3, m1, w2, (pk_lEQ (by omega) (by omega)).mp h⟩, fun ⟨_, _, _, m9, h9, e9⟩ => ?_⟩
      rw [← MX_1 h9 w2, e9]
  by_cases c : d < 4 ∧ d < l
  · have key : lp (fun s : Int32 => shX1_leastDepth_L3 (nI S') (nI l) (nI v) (lN m) ga wo s) 1 = some (Sum.inl (nI d)) := by
      obtain ⟨e, rfl⟩ : ∃ e, d = e + 1 := ⟨d - 1, by omega⟩
      refine lp_to (fun i => nI (i + 1)) e (fun i hi => ?_) ?_
      · show shX1_leastDepth_L3 (nI S') (nI l) (nI v) (lN m) ga wo (nI (i + 1)) = _
        obtain ⟨o, o1, o2⟩ := ww (i + 1) (by omega) (by omega) (by omega)
        unfold shX1_leastDepth_L3
        rw [if_neg (show ¬ (4 : Int32) ≤ nI (i + 1) from nI_ge (b := 4) (by omega) (by decide)), if_neg (nI_ge (by omega) (by omega)), pk_sub (by omega), o1, bind_s, if_pos (fun h => hl' (i + 1) (by omega) (o2.mp h)), nI_1]
      · show shX1_leastDepth_L3 (nI S') (nI l) (nI v) (lN m) ga wo (nI (e + 1)) = _
        obtain ⟨o, o1, o2⟩ := ww (e + 1) (by omega) (by omega) (by omega)
        unfold shX1_leastDepth_L3
        rw [if_neg (show ¬ (4 : Int32) ≤ nI (e + 1) from nI_ge (b := 4) (by omega) (by decide)), if_neg (nI_ge (by omega) (by omega)), pk_sub (by omega), o1, bind_s, if_neg (not_not_intro (o2.mpr ⟨d1, d2, d3, m', hm', he⟩))]
    unfold shX1_leastDepth shX1_leastDepth_j_33
    rw [key]; rfl
  · have key : lp (fun s : Int32 => shX1_leastDepth_L3 (nI S') (nI l) (nI v) (lN m) ga wo s) 1 = some (Sum.inr ()) := by
      obtain ⟨e, rfl⟩ : ∃ e, d = e + 1 := ⟨d - 1, by omega⟩
      refine lp_to (fun i => nI (i + 1)) e (fun i hi => ?_) ?_
      · show shX1_leastDepth_L3 (nI S') (nI l) (nI v) (lN m) ga wo (nI (i + 1)) = _
        obtain ⟨o, o1, o2⟩ := ww (i + 1) (by omega) (by omega) (by omega)
        unfold shX1_leastDepth_L3
        rw [if_neg (show ¬ (4 : Int32) ≤ nI (i + 1) from nI_ge (b := 4) (by omega) (by decide)), if_neg (nI_ge (by omega) (by omega)), pk_sub (by omega), o1, bind_s, if_pos (fun h => hl' (i + 1) (by omega) (o2.mp h)), nI_1]
      · show shX1_leastDepth_L3 (nI S') (nI l) (nI v) (lN m) ga wo (nI (e + 1)) = _
        unfold shX1_leastDepth_L3
        by_cases c4 : e + 1 = 4
        · rw [c4, if_pos (by decide)]
        · rw [if_neg (show ¬ (4 : Int32) ≤ nI (e + 1) from nI_ge (b := 4) (by omega) (by decide)), if_pos (nI_le (by omega) (by omega))]
    unfold shX1_leastDepth shX1_leastDepth_j_42
    rw [key]
    show some (if nI l < 4 then nI l else 4) = _
    by_cases c4 : l < 4
    · rw [if_pos (show nI l < (4 : Int32) from nI_lt (b := 4) c4 (by decide)), show d = l by omega]
    · rw [if_neg (show ¬ nI l < (4 : Int32) from nlt (b := 4) (by omega) (by omega)), show d = 4 by omega]; rfl
