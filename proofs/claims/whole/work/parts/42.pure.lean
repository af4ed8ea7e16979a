/-! visit -/
theorem age_t {k : Nat} (h1 : 1 ≤ k) (h2 : k ≤ 30) : shX4_isAge (nI k) = some 1 := by
  unfold shX4_isAge
  rw [if_neg (nlt1 h1 (by omega)), if_neg (show ¬ (30 : Int32) < nI k from nlt (a := 30) h2 (by decide))]
theorem age_f {x : Int32} (h : x < 1 ∨ nI 30 < x) : shX4_isAge x = some 0 := by
  unfold shX4_isAge
  by_cases c : x < 1
  · rw [if_pos c]
  · rw [if_neg c, if_pos (show (30 : Int32) < x from h.resolve_left c)]
theorem ne_m1 {k : Nat} (h : k < 2 ^ 31) : ¬ nI k = -1 := by rw [eqI, tI h, tm1]; omega
theorem ne_0 {k : Nat} (h1 : 1 ≤ k) (h : k < 2 ^ 31) : ¬ nI k = 0 := by rw [eqI, tI h, show (0 : Int32).toInt = 0 from rfl]; omega
theorem iv_set {rs vs : Int32} {vr vp vb vw ve vu : Nat → Int32} {mv : Int32} {mr mp mb mw me mu : Nat → Int32} (h : IV rs vs vr vp vb vw ve vu mv mr mp mb mw me mu) {v0 : Nat} (hw : ∃ k : Nat, 1 ≤ k ∧ k ≤ 4 ∧ vw v0 = nI k ∧ mw v0 = nI k) {ve' vu' me' mu' : Nat → Int32} (h1 : ∀ v, v ≠ v0 → ve' v = ve v ∧ me' v = me v ∧ vu' v = vu v ∧ mu' v = mu v) (h2 : ve' v0 = me' v0 ∧ (ve' v0 = -1 ∨ ∃ a : Nat, 1 ≤ a ∧ a ≤ 30 ∧ ve' v0 = nI a)) (h3 : vu' v0 = mu' v0 ∧ ∃ a : Nat, a ≤ 30 ∧ vu' v0 = nI a) : IV rs vs vr vp vb vw ve' vu' mv mr mp mb mw me' mu' := by
  obtain ⟨n, nr, hn, e1, e2, hnr, e3, hv⟩ := h
  refine ⟨n, nr, hn, e1, e2, hnr, e3, fun v a1 a2 => ?_⟩
  obtain ⟨b1, b2, b3, b4, b5, b6⟩ := hv v a1 a2
  by_cases c : v = v0
  · subst c
    exact ⟨b1, b2, b3, Or.inr hw, h2, h3⟩
  · obtain ⟨c1, c2, c3, c4⟩ := h1 v c
    rw [c1, c2, c3, c4]
    exact ⟨b1, b2, b3, b4, b5, b6⟩
theorem pu_visit {rs vs : Int32} {vr vp vb vw ve vu : Nat → Int32} {mv : Int32} {mr mp mb mw me mu : Nat → Int32} (h : IV rs vs vr vp vb vw ve vu mv mr mp mb mw me mu) (a b z th : Int32) :
    ∃ o o', shX6_visit a b z vs vw ve vu = some o ∧ shX7_visit a b z th mv mw me mu = some o' ∧ o.1 = o'.1 ∧ IV rs vs vr vp vb vw o.2.1 o.2.2 mv mr mp mb mw o'.2.2.1 o'.2.2.2 := by
  have h0 := h
  obtain ⟨n, nr, hn, rfl, rfl, hnr, e3, hv⟩ := h
  unfold shX6_visit shX7_visit shX4_hasWell
  rcases in1 a (n := n) (by omega) with ha | ⟨v, h1, h2, rfl⟩
  · rw [has4_f ha, isV_f ha]
    exact ⟨_, _, rfl, rfl, rfl, h0⟩
  · obtain ⟨b1, b2, b3, b4, ⟨b5, b5'⟩, b6, b6'⟩ := hv v h1 h2
    rw [has4_t h1 h2 (by omega), isV_t h1 h2 (by omega), gd_nI (k := v) (by omega) (by decide), cl (by omega)]
    simp only [bind_s, i10]
    rcases b4 with ⟨w1, w2, w3, w4⟩ | ⟨k, hk1, hk2, w1, w2⟩
    · rw [if_pos w1, if_pos w2]
      simp only [bind_s, i00]
      exact ⟨_, _, rfl, rfl, rfl, h0⟩
    · rw [if_neg (show ¬ vw v = -1 by rw [w1]; exact ne_m1 (by omega)), if_neg (show ¬ mw v = 0 by rw [w2]; exact ne_0 hk1 (by omega))]
      simp only [bind_s, i10]
      rcases in1 b (n := 30) (by decide) with hb | ⟨t, ht1, ht2, rfl⟩
      · rw [age_f hb]
        simp only [bind_s, n00]
        by_cases c : b < 1
        · rw [if_pos c]; exact ⟨_, _, rfl, rfl, rfl, h0⟩
        · rw [if_neg c, if_neg (show ¬ b ≤ (30 : Int32) from Int32.not_le.mpr (hb.resolve_left c))]; exact ⟨_, _, rfl, rfl, rfl, h0⟩
      · rw [age_t ht1 ht2]
        simp only [bind_s, n10]
        rw [if_neg (nlt1 ht1 (by omega)), if_pos (show nI t ≤ (30 : Int32) from nI_le (b := 30) ht2 (by decide))]
        unfold shX4_addVisit shX4_addVisit_j_43 shX7_visit_j_92 shX7_visit_j_102 shX7_visit_j_64
        rw [gd_nI (k := v) (by omega) (by decide), cl (by omega)]
        simp only [bind_s]
        have hset : ∀ x : Int32, (∃ q : Nat, 1 ≤ q ∧ q ≤ 30 ∧ x = nI q) → ∀ me', (∀ j, me' j = upd me v x j) → IV rs (nI n) vr vp vb vw (upd ve v x) vu (nI n) mr mp mb mw me' mu := by
          intro x ⟨q, q1, q2, q3⟩ me' hm
          refine iv_set h0 ⟨k, hk1, hk2, w1, w2⟩ (fun j hj => ⟨upd_n hj, by rw [hm, upd_n hj], rfl, rfl⟩) ?_ ⟨b6, b6'⟩
          rw [hm, upd_s, upd_s]
          exact ⟨rfl, Or.inr ⟨q, q1, q2, q3⟩⟩
        by_cases cz : z = 0
        · rw [if_pos cz, if_pos cz]
          rcases b5' with b7 | ⟨q, q1, q2, q3⟩
          · rw [if_pos b7, if_pos (show me v < 0 by rw [← b5, b7]; decide)]
            exact ⟨_, _, rfl, rfl, rfl, hset (nI t) ⟨t, ht1, ht2, rfl⟩ _ (fun _ => rfl)⟩
          · rw [if_neg (show ¬ ve v = -1 by rw [q3]; exact ne_m1 (by omega)), if_neg (show ¬ me v < 0 by rw [← b5, q3]; exact nlt0 (by omega))]
            by_cases c : ve v ≤ nI t
            · rw [if_pos c, if_pos (by rw [← b5]; exact c)]
              refine ⟨_, _, rfl, rfl, rfl, ?_⟩
              refine iv_set h0 ⟨k, hk1, hk2, w1, w2⟩ (fun j hj => ⟨rfl, upd_n hj, rfl, rfl⟩) ?_ ⟨b6, b6'⟩
              dsimp only
              rw [upd_s]
              exact ⟨b5, Or.inr ⟨q, q1, q2, q3⟩⟩
            · rw [if_neg c, if_neg (by rw [← b5]; exact c)]
              exact ⟨_, _, rfl, rfl, rfl, hset (nI t) ⟨t, ht1, ht2, rfl⟩ _ (fun _ => rfl)⟩
        · rw [if_neg cz, if_neg cz]
          have fin : ∀ (x y : Int32), x = y → (∃ q : Nat, q ≤ 30 ∧ x = nI q) → IV rs (nI n) vr vp vb vw ve (upd vu v x) (nI n) mr mp mb mw me (upd mu v y) := by
            intro x y hxy hq
            refine iv_set h0 ⟨k, hk1, hk2, w1, w2⟩ (fun j hj => ⟨rfl, rfl, upd_n hj, upd_n hj⟩) ⟨b5, b5'⟩ ?_
            rw [upd_s, upd_s]
            exact ⟨hxy, hq⟩
          by_cases c : nI t ≤ mu v
          · rw [if_pos c]
            refine ⟨_, _, rfl, rfl, rfl, fin _ _ ?_ ?_⟩
            · rw [if_neg (show ¬ vu v < nI t by rw [b6]; exact Int32.not_lt.mpr c)]; exact b6
            · rw [if_neg (show ¬ vu v < nI t by rw [b6]; exact Int32.not_lt.mpr c)]; exact b6'
          · rw [if_neg c]
            refine ⟨_, _, rfl, rfl, rfl, fin _ _ ?_ ?_⟩
            · rw [if_pos (show vu v < nI t by rw [b6]; exact Int32.not_le.mp c)]
            · rw [if_pos (show vu v < nI t by rw [b6]; exact Int32.not_le.mp c)]; exact ⟨t, ht2, rfl⟩
/-! look -/
theorem pu_look {bn : Nat → Int32} {salt dry rest : Int32} (hU : IU bn salt dry rest) {rs vs : Int32} {vr vp vb vw ve vu : Nat → Int32} {mv : Int32} {mr mp mb mw me mu : Nat → Int32} (h : IV rs vs vr vp vb vw ve vu mv mr mp mb mw me mu) (a b th : Int32) :
    ∃ o o', shX6_look a b bn vs vr vp vb vw ve vu = some o ∧ shX7_look a b th dry mv mr mp mb mw me mu = some o' ∧ ((∃ r : Int32, o = Sum.inl r ∧ o'.2 = 0 ∧ o'.1 = r) ∨ (o = Sum.inr 1 ∧ o'.2 = 1) ∨ (o = Sum.inr 2 ∧ o'.2 = 2)) := by
  obtain ⟨n, nr, hn, rfl, rfl, hnr, e3, hv⟩ := h
  unfold shX6_look shX7_look shX7_fails
  rcases in1 a (n := n) (by omega) with ha | ⟨v, h1, h2, rfl⟩
  · rw [has4_f ha, isV_f ha]
    exact ⟨_, _, rfl, rfl, Or.inr (Or.inl ⟨rfl, rfl⟩)⟩
  · obtain ⟨⟨b1, -⟩, ⟨b2, -⟩, b3, b4, ⟨b5, b5'⟩, b6, b6'⟩ := hv v h1 h2
    rw [has4_t h1 h2 (by omega), isV_t h1 h2 (by omega)]
    simp only [bind_s, n10]
    unfold shX4_rockOf shX4_peopleOf shX0_dry shX4_state shX4_hasWell shX4_badHoles shX4_wellPipes shX4_endAge shX4_runAge
    rw [gd_nI (k := v) (by omega) (by decide), cl (by omega)]
    simp only [bind_s]
    have ret : ∀ {x y : Int32}, x = y → ∃ (o : Int32 ⊕ Nat) (o' : Int32 × Int32), (some (Sum.inl x) : Option (Int32 ⊕ Nat)) = some o ∧ some (y, (0 : Int32)) = some o' ∧ ((∃ r : Int32, o = Sum.inl r ∧ o'.2 = 0 ∧ o'.1 = r) ∨ (o = Sum.inr 1 ∧ o'.2 = 1) ∨ (o = Sum.inr 2 ∧ o'.2 = 2)) := fun {x y} e => ⟨_, _, rfl, rfl, Or.inl ⟨x, rfl, rfl, e.symm⟩⟩
    by_cases c0 : b = 0
    · rw [if_pos c0, if_pos c0]; exact ret b1
    · rw [if_neg c0, if_neg c0]
      by_cases c1 : b = 1
      · rw [if_pos c1, if_pos c1]; exact ret b2
      · rw [if_neg c1, if_neg c1]
        by_cases c2 : b = 2
        · rw [if_pos c2, if_pos c2]
          rcases b4 with ⟨w1, w2, w3, w4⟩ | ⟨k, hk1, hk2, w1, w2⟩
          · rw [if_pos w1, if_pos (show mw v ≤ 0 by rw [w2]; decide), bind_s, if_pos rfl, ← b3, show bn (1 : Int32).toNatClampNeg = dry from hU.2.1]
            by_cases cd : vb v < dry
            · rw [if_pos cd, if_pos cd]; exact ret rfl
            · rw [if_neg cd, if_neg cd]; exact ret rfl
          · rw [if_neg (show ¬ vw v = -1 by rw [w1]; exact ne_m1 (by omega)), if_neg (show ¬ mw v ≤ 0 by rw [w2]; exact nI_nle (by omega) (by omega)), bind_s, if_neg (by decide)]
            exact ret rfl
        · rw [if_neg c2, if_neg c2]
          by_cases c3 : b = 3
          · rw [if_pos c3, if_pos c3]; exact ret b3
          · rw [if_neg c3, if_neg c3]
            by_cases c4 : b = 4
            · rw [if_pos c4, if_pos c4]
              rcases b4 with ⟨w1, w2, w3, w4⟩ | ⟨k, hk1, hk2, w1, w2⟩
              · rw [if_pos (show mw v ≤ 0 by rw [w2]; decide)]; exact ret w1
              · rw [if_neg (show ¬ mw v ≤ 0 by rw [w2]; exact nI_nle (by omega) (by omega))]; exact ret (w1.trans w2.symm)
            · rw [if_neg c4, if_neg c4]
              by_cases c5 : b = 5
              · rw [if_pos c5, if_pos c5]; exact ret b5
              · rw [if_neg c5, if_neg c5]
                by_cases c6 : b = 6
                · rw [if_pos c6, if_pos c6]; exact ret b6
                · rw [if_neg c6, if_neg c6]
                  exact ⟨_, _, rfl, rfl, Or.inr (Or.inr ⟨rfl, rfl⟩)⟩
