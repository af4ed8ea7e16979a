/-! rock -/
theorem fail3 {a b c : Int32} (h : ¬ ((∃ i : Nat, 1 ≤ i ∧ i ≤ 99 ∧ a = nI i) ∧ (∃ i : Nat, 1 ≤ i ∧ i ≤ 99 ∧ b = nI i) ∧ ∃ i : Nat, 1 ≤ i ∧ i ≤ 99 ∧ c = nI i)) (rs : Int32) (rp : Nat → Int32) (th mr : Int32) (mp mpi : Nat → Int32) : shX6_rock a b c rs rp = some (-1, rs, rp) ∧ shX7_rock a b c th mr mp mpi = some (-1, 0, mr, mp, mpi) := by
  unfold shX6_rock shX7_rock
  rcases in1 a (n := 99) (by decide) with ha | ha
  · rw [(prior_f ha).1, (prior_f ha).2, bind_s, if_pos rfl, bind_s, if_pos rfl]
    exact ⟨rfl, by split <;> rfl⟩
  · obtain ⟨i, hi1, hi2, rfl⟩ := id ha
    rw [(prior_t hi1 hi2).1, (prior_t hi1 hi2).2]
    simp only [bind_s, i10]
    rcases in1 b (n := 99) (by decide) with hb | hb
    · rw [(prior_f hb).1, (prior_f hb).2, bind_s, if_pos rfl, bind_s, if_pos rfl]
      exact ⟨rfl, by split <;> rfl⟩
    · obtain ⟨j, hj1, hj2, rfl⟩ := id hb
      rw [(prior_t hj1 hj2).1, (prior_t hj1 hj2).2]
      simp only [bind_s, i10]
      rcases in1 c (n := 99) (by decide) with hc | hc
      · rw [(prior_f hc).1, (prior_f hc).2]
        simp only [bind_s, n00]
        exact ⟨rfl, by split <;> rfl⟩
      · exact absurd ⟨ha, hb, hc⟩ h
theorem pu_rock {rs : Int32} {rp rc rw' rb rpi : Nat → Int32} {mr : Int32} {mp mpi mpipe mmet mch : Nat → Int32} {mall : Int32} (hK : IK rs rp rc rw' rb rpi mr mp mpi mpipe mmet mch mall) (a b c th : Int32) :
    ∃ o o', shX6_rock a b c rs rp = some o ∧ shX7_rock a b c th mr mp mpi = some o' ∧ o.1 = o'.1 ∧ IK o.2.1 o.2.2 rc rw' rb rpi o'.2.2.1 o'.2.2.2.1 o'.2.2.2.2 mpipe mmet mch mall ∧ (o.2.1 = rs ∨ ∃ n : Nat, n < 4 ∧ rs = nI n ∧ o.2.1 = nI (n + 1)) := by
  by_cases hv : (∃ i : Nat, 1 ≤ i ∧ i ≤ 99 ∧ a = nI i) ∧ (∃ i : Nat, 1 ≤ i ∧ i ≤ 99 ∧ b = nI i) ∧ ∃ i : Nat, 1 ≤ i ∧ i ≤ 99 ∧ c = nI i
  · obtain ⟨⟨i, hi1, hi2, rfl⟩, ⟨j, hj1, hj2, rfl⟩, ⟨k, hk1, hk2, rfl⟩⟩ := hv
    have hK0 := hK
    obtain ⟨n, ps, hn, rfl, rfl, hp, hc, hps, hp0, hpp, hct, hal⟩ := hK
    unfold shX6_rock shX7_rock shX2_append
    rw [(prior_t hi1 hi2).1, (prior_t hi1 hi2).2, (prior_t hj1 hj2).1, (prior_t hj1 hj2).2, (prior_t hk1 hk2).1, (prior_t hk1 hk2).2]
    simp only [bind_s, i10, n10]
    by_cases c4 : n = 4
    · subst c4
      rw [if_neg (by decide), if_pos (by decide), bind_s]
      exact ⟨_, _, rfl, rfl, rfl, hK0, Or.inl rfl⟩
    · have hn4 : n < 4 := by omega
      have e1 : nI n * (3 : Int32) = nI (3 * n) := by rw [show (3 : Int32) = nI 3 from rfl, pk_mul, Nat.mul_comm]
      have e2 : (3 : Int32) * nI n = nI (3 * n) := by rw [show (3 : Int32) = nI 3 from rfl, pk_mul]
      have e3 : nI (3 * n) + (1 : Int32) = nI (3 * n + 1) := nI_1 _
      have e4 : nI (3 * n) + (2 : Int32) = nI (3 * n + 2) := by rw [show (2 : Int32) = nI 2 from rfl, nI_add]
      have e5 : nI n + (1 : Int32) = nI (n + 1) := nI_1 _
      rw [if_pos (show nI n < (4 : Int32) from nI_lt (b := 4) hn4 (by decide)), if_neg (show ¬ nI n = (4 : Int32) from fun h => c4 ((nI_eq (b := 4) (by omega) (by decide)).mp h)), e1, e2, e3, e4, e5, gd_nI (k := 3 * n) (by omega) (by decide), gd_nI (k := 3 * n + 1) (by omega) (by decide), gd_nI (k := 3 * n + 2) (by omega) (by decide), gd_nI (k := n) (by omega) (by decide)]
      refine ⟨_, _, rfl, rfl, rfl, ?_, Or.inr ⟨n, hn4, rfl, rfl⟩⟩
      rw [cl (by omega), cl (by omega), cl (by omega), cl (by omega)]
      refine ⟨n + 1, ps, by omega, rfl, rfl, ?_, hc, ?_, fun r hr => hp0 r (by omega), hpp, hct, hal⟩
      · intro q hq
        dsimp only
        by_cases h2 : q = 3 * n + 2
        · rw [h2, upd_s, upd_s]; exact ⟨rfl, k, hk1, hk2, rfl⟩
        · rw [upd_n h2, upd_n h2]
          by_cases h1 : q = 3 * n + 1
          · rw [h1, upd_s, upd_s]; exact ⟨rfl, j, hj1, hj2, rfl⟩
          · rw [upd_n h1, upd_n h1]
            by_cases h0 : q = 3 * n
            · rw [h0, upd_s, upd_s]; exact ⟨rfl, i, hi1, hi2, rfl⟩
            · rw [upd_n h0, upd_n h0]; exact hp q (by omega)
      · intro r hr
        refine ⟨(hps r hr).1, (hps r hr).2.1, ?_⟩
        dsimp only
        by_cases h0 : r = n
        · rw [h0, upd_s, hp0 n (Nat.le_refl _)]; rfl
        · rw [upd_n h0]; exact (hps r hr).2.2
  · obtain ⟨h1, h2⟩ := fail3 hv rs rp th mr mp mpi
    exact ⟨_, _, h1, h2, rfl, hK, Or.inl rfl⟩
theorem iv_rock {rs rs' vs : Int32} {vr vp vb vw ve vu : Nat → Int32} {mv : Int32} {mr mp mb mw me mu : Nat → Int32} (h : IV rs vs vr vp vb vw ve vu mv mr mp mb mw me mu) (hr : rs' = rs ∨ ∃ n : Nat, n < 4 ∧ rs = nI n ∧ rs' = nI (n + 1)) : IV rs' vs vr vp vb vw ve vu mv mr mp mb mw me mu := by
  rcases hr with rfl | ⟨n, hn, e1, e2⟩
  · exact h
  · obtain ⟨k, nr, hk, h1, h2, hnr, h3, h4⟩ := h
    have : nr = n := (nI_eq (by omega) (by omega)).mp (h3.symm.trans e1)
    subst this
    refine ⟨k, nr + 1, hk, h1, h2, by omega, e2, fun v h5 h6 => ?_⟩
    obtain ⟨⟨a1, r, hr, a2⟩, a3⟩ := h4 v h5 h6
    exact ⟨⟨a1, r, by omega, a2⟩, a3⟩
/-! chance -/
theorem qual_t {q : Nat} (h : q < 3) : shX2_isQuality (nI q) = some 1 := by
  unfold shX2_isQuality
  rw [if_neg (nlt0 (by omega)), if_neg (show ¬ (3 : Int32) ≤ nI q from nI_ge (b := 3) h (by decide))]
theorem qual_f {x : Int32} (h : x < 0 ∨ nI 3 ≤ x) : shX2_isQuality x = some 0 := by
  unfold shX2_isQuality
  by_cases c : x < 0
  · rw [if_pos c]
  · rw [if_neg c, if_pos (show (3 : Int32) ≤ x from h.resolve_left c)]
theorem dep_t {k : Nat} (h1 : 1 ≤ k) (h2 : k ≤ 4) : shX2_isDepth (nI k) = some 1 := by
  unfold shX2_isDepth
  rw [if_neg (nlt1 h1 (by omega)), if_neg (show ¬ (4 : Int32) < nI k from nlt (a := 4) h2 (by decide))]
theorem dep_f {x : Int32} (h : x < 1 ∨ nI 4 < x) : shX2_isDepth x = some 0 := by
  unfold shX2_isDepth
  by_cases c : x < 1
  · rw [if_pos c]
  · rw [if_neg c, if_pos (show (4 : Int32) < x from h.resolve_left c)]
theorem pu_chance {rs : Int32} {rp rc rw' rb rpi : Nat → Int32} {mr : Int32} {mp mpi mpipe mmet mch : Nat → Int32} {mall : Int32} (hK : IK rs rp rc rw' rb rpi mr mp mpi mpipe mmet mch mall) (a b c th : Int32) :
    ∃ o o', shX6_chance a b c rc = some o ∧ shX7_chance a b c th mch = some o' ∧ o.1 = o'.1 ∧ IK rs rp o.2 rw' rb rpi mr mp mpi mpipe mmet o'.2.2 mall := by
  unfold shX6_chance shX7_chance
  rcases in0' a (n := 3) (by decide) with ha | ⟨q, hq, rfl⟩
  · rw [qual_f ha, bind_s, if_pos rfl]
    by_cases h : a < 0
    · rw [if_pos h]; exact ⟨_, _, rfl, rfl, rfl, hK⟩
    · have h3 : (2 : Int32) < a := by
        have := ha.resolve_left h
        rw [leI, show (nI 3).toInt = 3 from rfl] at this
        rw [ltI, show (2 : Int32).toInt = 2 from rfl]; omega
      rw [if_neg h, if_pos h3]; exact ⟨_, _, rfl, rfl, rfl, hK⟩
  · rw [qual_t hq, bind_s, if_neg (by decide), if_neg (nlt0 (by omega)), if_neg (show ¬ (2 : Int32) < nI q from nlt (a := 2) (by omega) (by decide))]
    rcases in1 b (n := 4) (by decide) with hb | ⟨k, hk1, hk2, rfl⟩
    · rw [dep_f hb, bind_s, if_pos rfl]
      by_cases h : b < 1
      · rw [if_pos h]; exact ⟨_, _, rfl, rfl, rfl, hK⟩
      · rw [if_neg h, if_pos (show (4 : Int32) < b from hb.resolve_left h)]; exact ⟨_, _, rfl, rfl, rfl, hK⟩
    · rw [dep_t hk1 hk2, bind_s, if_neg (by decide), if_neg (nlt1 hk1 (by omega)), if_neg (show ¬ (4 : Int32) < nI k from nlt (a := 4) hk2 (by decide))]
      rcases in0 c (n := 15) (by decide) with hc | ⟨z, hz, rfl⟩
      · by_cases h : c < 0
        · rw [if_pos h, if_pos h]; exact ⟨_, _, rfl, rfl, rfl, hK⟩
        · have h2 : ¬ c ≤ 15 := Int32.not_le.mpr (hc.resolve_left h)
          rw [if_neg h, if_neg h, if_neg h2, if_neg h2]; exact ⟨_, _, rfl, rfl, rfl, hK⟩
      · have h2 : nI z ≤ (15 : Int32) := nI_le (b := 15) hz (by decide)
        rw [if_neg (nlt0 (by omega)), if_neg (nlt0 (by omega)), if_pos h2, if_pos h2]
        unfold shX2_setChance
        obtain ⟨k', rfl⟩ : ∃ k', k = k' + 1 := ⟨k - 1, by omega⟩
        have e1 : ((nI q * (4 : Int32)) + nI (k' + 1)) - 1 = nI (4 * q + k') := by
          rw [show (4 : Int32) = nI 4 from rfl, pk_mul, nI_add, show q * 4 + (k' + 1) = (4 * q + k') + 1 by omega, nI_pred]
        have e2 : ((5 : Int32) * nI q) + nI (k' + 1) = nI (5 * q + k' + 1) := by rw [show (5 : Int32) = nI 5 from rfl, pk_mul, nI_add]; rfl
        rw [e1, e2, gd_nI (k := 4 * q + k') (by omega) (by decide), gd_nI (k := 5 * q + k' + 1) (by omega) (by decide)]
        refine ⟨_, _, rfl, rfl, rfl, ?_⟩
        rw [cl (by omega), cl (by omega)]
        obtain ⟨n, ps, hn, h1, h2, hp, hcc, hrest⟩ := hK
        refine ⟨n, ps, hn, h1, h2, hp, fun q' j hq' hj => ?_, hrest⟩
        dsimp only
        by_cases he : 4 * q' + j = 4 * q + k'
        · have h6 : 5 * q' + j + 1 = 5 * q + k' + 1 := by omega
          rw [he, h6, upd_s, upd_s]; exact ⟨rfl, z, hz, rfl⟩
        · have h6 : 5 * q' + j + 1 ≠ 5 * q + k' + 1 := by omega
          rw [upd_n he, upd_n h6]; exact hcc q' j hq' hj
/-! village -/
theorem has2_t {v n : Nat} (h : v < n) (hn : n < 2 ^ 31) : shX2_has (nI v) (nI n) = some 1 := by
  unfold shX2_has
  rw [if_neg (nlt0 (by omega)), if_neg (nI_ge h hn)]
theorem has2_f {x : Int32} {n : Nat} (h : x < 0 ∨ nI n ≤ x) : shX2_has x (nI n) = some 0 := by
  unfold shX2_has
  by_cases c : x < 0
  · rw [if_pos c]
  · rw [if_neg c, if_pos (h.resolve_left c)]
theorem pu_village {rs vs : Int32} {vr vp vb vw ve vu : Nat → Int32} {mv : Int32} {mr mp mb mw me mu : Nat → Int32} (h : IV rs vs vr vp vb vw ve vu mv mr mp mb mw me mu) (a b th mrs : Int32) (hrs : mrs = rs) :
    ∃ o o', shX6_village a b rs vs vr vp vb vw ve vu = some o ∧ shX7_village a b th mrs mv mr mp mb mw me mu = some o' ∧ o.1 = o'.1 ∧ IV rs o.2.1 o.2.2.1 o.2.2.2.1 o.2.2.2.2.1 o.2.2.2.2.2.1 o.2.2.2.2.2.2.1 o.2.2.2.2.2.2.2 o'.2.2.1 o'.2.2.2.1 o'.2.2.2.2.1 o'.2.2.2.2.2.1 o'.2.2.2.2.2.2.1 o'.2.2.2.2.2.2.2.1 o'.2.2.2.2.2.2.2.2 ∧ (o.2.1 = vs ∨ ∃ n : Nat, n < 7 ∧ vs = nI n ∧ o.2.1 = nI (n + 1)) := by
  subst hrs
  have h0 := h
  obtain ⟨n, nr, hn, rfl, rfl, hnr, rfl, hv⟩ := h
  by_cases c7 : n = 7
  · subst c7
    have e1 : ∀ (f : True), shX4_append a b (nI 7) vr vp vb vw ve vu = some (-1, nI 7, vr, vp, vb, vw, ve, vu) := fun _ => by
      unfold shX4_append; rw [if_neg (by decide)]
    refine ⟨(-1, nI 7, vr, vp, vb, vw, ve, vu), (-1, 0, nI 7, mr, mp, mb, mw, me, mu), ?_, ?_, rfl, h0, Or.inl rfl⟩
    · unfold shX6_village
      rw [e1 trivial]
      rcases in0' a (n := nr) (by omega) with ha | ⟨r, hr, rfl⟩
      · rw [has2_f ha]; rfl
      · rw [has2_t hr (by omega), bind_s, if_neg (by decide)]
        split
        · rfl
        · split <;> rfl
    · unfold shX7_village
      rw [if_pos (by decide)]
  · have hn7 : n < 7 := by omega
    unfold shX6_village shX7_village
    rw [if_neg (show ¬ nI n = (7 : Int32) from fun h => c7 ((nI_eq (b := 7) (by omega) (by decide)).mp h))]
    rcases in0' a (n := nr) (by omega) with ha | ⟨r, hr, rfl⟩
    · rw [has2_f ha, bind_s, if_pos rfl]
      by_cases c : a < 0
      · rw [if_pos c]; exact ⟨_, _, rfl, rfl, rfl, h0, Or.inl rfl⟩
      · rw [if_neg c, if_pos (ha.resolve_left c)]; exact ⟨_, _, rfl, rfl, rfl, h0, Or.inl rfl⟩
    · rw [has2_t hr (by omega), bind_s, if_neg (by decide), if_neg (nlt0 (by omega)), if_neg (nI_ge hr (by omega))]
      rcases in1 b (n := 9999) (by decide) with hb | ⟨k, hk1, hk2, rfl⟩
      · by_cases c : b < 1
        · rw [if_pos c, if_pos c]; exact ⟨_, _, rfl, rfl, rfl, h0, Or.inl rfl⟩
        · have c2 : ¬ b ≤ 9999 := Int32.not_le.mpr (hb.resolve_left c)
          rw [if_neg c, if_neg c, if_neg c2, if_neg c2]; exact ⟨_, _, rfl, rfl, rfl, h0, Or.inl rfl⟩
      · have c2 : nI k ≤ (9999 : Int32) := nI_le (b := 9999) hk2 (by decide)
        unfold shX4_append
        rw [if_neg (nlt1 hk1 (by omega)), if_neg (nlt1 hk1 (by omega)), if_pos c2, if_pos c2, if_pos (show nI n < (7 : Int32) from nI_lt (b := 7) hn7 (by decide)), nI_1, gd_nI (k := n + 1) (by omega) (by decide)]
        refine ⟨_, _, rfl, rfl, rfl, ?_, Or.inr ⟨n, hn7, rfl, rfl⟩⟩
        dsimp only
        rw [cl (by omega)]
        refine ⟨n + 1, nr, by omega, rfl, rfl, hnr, rfl, fun v h1 h2 => ?_⟩
        by_cases he : v = n + 1
        · subst he
          simp only [upd_s]
          exact ⟨⟨trivial, r, hr, rfl⟩, ⟨trivial, k, hk1, hk2, rfl⟩, trivial, Or.inl ⟨trivial, trivial, trivial, trivial⟩, ⟨trivial, Or.inl trivial⟩, trivial, 0, by omega, rfl⟩
        · simp only [upd_n he]
          exact hv v h1 (by omega)
theorem ig_more {vs vs' rp day mat mday : Int32} (h : IG vs rp day mat mday) (hv : vs' = vs ∨ ∃ n : Nat, n < 7 ∧ vs = nI n ∧ vs' = nI (n + 1)) : IG vs' rp day mat mday := by
  rcases hv with rfl | ⟨n, hn, e1, e2⟩
  · exact h
  · obtain ⟨a, d, k, h1, h2, h3, h4⟩ := h
    have : k = n := (nI_eq (by omega) (by omega)).mp (h1.symm.trans e1)
    subst this
    exact ⟨a, d, k + 1, e2, by omega, by omega, h4⟩
/-! planned -/
theorem pu_planned {made pipes days stops : Int32} {depths order : Nat → Int32} {isPlan many mpipes mdays : Int32} {pof pdepth : Nat → Int32} (h : IP made pipes days stops depths order isPlan many mpipes mdays pof pdepth) (a b th : Int32) : ∃ o o', shX6_planned a b made pipes days stops depths order = some o ∧ shX7_planned a b th isPlan many mpipes mdays pof pdepth = some o' ∧ o = o'.1 := by
  unfold shX6_planned shX1_tell shX7_planned
  rcases h with ⟨rfl, rfl⟩ | ⟨rfl, rfl, rfl, rfl, k, hk, rfl, rfl, ho⟩
  · simp only [n00]; exact ⟨_, _, rfl, rfl, rfl⟩
  · simp only [n10]
    by_cases c0 : a = 0
    · rw [if_pos c0, if_pos c0]
      rcases in0' b (n := k) (by omega) with hb | ⟨j, hj, rfl⟩
      · by_cases c : b < 0
        · rw [if_pos c, if_pos c]; exact ⟨_, _, rfl, rfl, rfl⟩
        · have hb' := hb.resolve_left c
          rw [if_neg c, if_neg c, if_pos hb', if_neg (Int32.not_lt.mpr hb')]; exact ⟨_, _, rfl, rfl, rfl⟩
      · obtain ⟨v, hv1, hv2, e1, e2, e3⟩ := ho j hj
        rw [if_neg (nlt0 (by omega)), if_neg (nlt0 (by omega)), if_neg (nI_ge hj (by omega)), if_pos (nI_lt hj (by omega)), gd_nI (k := j) (by omega) (by decide), cl (by omega)]
        exact ⟨_, _, rfl, rfl, e1.trans e2.symm⟩
    · rw [if_neg c0, if_neg c0]
      by_cases c1 : a = 1
      · rw [if_pos c1, if_pos c1]
        rcases in0' b (n := k) (by omega) with hb | ⟨j, hj, rfl⟩
        · by_cases c : b < 0
          · rw [if_pos c, if_pos c]; exact ⟨_, _, rfl, rfl, rfl⟩
          · have hb' := hb.resolve_left c
            rw [if_neg c, if_neg c, if_pos hb', if_neg (Int32.not_lt.mpr hb')]; exact ⟨_, _, rfl, rfl, rfl⟩
        · obtain ⟨v, hv1, hv2, e1, e2, e3⟩ := ho j hj
          rw [if_neg (nlt0 (by omega)), if_neg (nlt0 (by omega)), if_neg (nI_ge hj (by omega)), if_pos (nI_lt hj (by omega)), gd_nI (k := j) (by omega) (by decide), cl (by omega), e1, gd_nI (k := v) (by omega) (by decide), cl (by omega)]
          exact ⟨_, _, rfl, rfl, e3.symm⟩
      · rw [if_neg c1, if_neg c1]
        by_cases c2 : a = 2
        · rw [if_pos c2, if_pos c2]; exact ⟨_, _, rfl, rfl, rfl⟩
        · rw [if_neg c2, if_neg c2]
          by_cases c3 : a = 3
          · rw [if_pos c3, if_pos c3]; exact ⟨_, _, rfl, rfl, rfl⟩
          · rw [if_neg c3, if_neg c3]
            by_cases c4 : a = 4
            · rw [if_pos c4, if_pos c4]; exact ⟨_, _, rfl, rfl, rfl⟩
            · rw [if_neg c4, if_neg c4]; exact ⟨_, _, rfl, rfl, rfl⟩
