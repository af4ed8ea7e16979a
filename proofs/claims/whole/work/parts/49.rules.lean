/-! rules: words -/
def WD (w : Nat → Int32) (s j k : Nat) : Prop := j - s = sN k ∧ ∀ x, x < sN k → w (s + x) = sC k x
theorem sN_b : ∀ k, k < 3 → 3 ≤ sN k ∧ sN k ≤ 4 := by decide
theorem iw_t {s j k n : Nat} (hsj : s ≤ j) (hj : j ≤ n) (hn : n ≤ 200) (hk : k < 3) {w : Nat → Int32} (h : WD w s j k) : shX0_isWord (nI s) k (nI j) (nI n) w = some 1 := by
  obtain ⟨b1, b2⟩ := sN_b k hk
  unfold shX0_isWord shX0_isWord_j_44 shX0_isWord_j_52
  rw [pk_sub hsj, h.1, if_pos rfl]
  have key : lp (fun s' : Int32 => shX0_isWord_L18 (nI s) k (nI n) w s') 0 = some (Sum.inr ()) := by
    refine lp_to (fun x => nI x) (sN k) (fun x hx => ?_) ?_
    · show shX0_isWord_L18 (nI s) k (nI n) w (nI x) = _
      unfold shX0_isWord_L18
      have := h.1
      rw [if_neg (nI_ge hx (by omega)), nI_add, at_c (by omega) hn, bind_s, gd_nI (k := x) hx (by omega), cl (by omega), bind_s, if_pos (h.2 x hx), nI_1]
    · show shX0_isWord_L18 (nI s) k (nI n) w (nI (sN k)) = _
      unfold shX0_isWord_L18
      rw [if_pos (nI_le (Nat.le_refl _) (by omega))]
  rw [key]; rfl
theorem iw_f {s j k n : Nat} (hsj : s ≤ j) (hj : j ≤ n) (hn : n ≤ 200) (hk : k < 3) {w : Nat → Int32} (h : ¬ WD w s j k) : shX0_isWord (nI s) k (nI j) (nI n) w = some 0 := by
  obtain ⟨b1, b2⟩ := sN_b k hk
  unfold shX0_isWord shX0_isWord_j_44 shX0_isWord_j_52
  rw [pk_sub hsj]
  by_cases c : j - s = sN k
  · rw [c, if_pos rfl]
    have hx : ∃ x, x < sN k ∧ ¬ w (s + x) = sC k x := Classical.byContradiction fun g => h ⟨c, fun x hx => Classical.byContradiction fun g2 => g ⟨x, hx, g2⟩⟩
    obtain ⟨x0, ⟨h0, h1⟩, h2⟩ := pk_least _ hx
    have key : lp (fun s' : Int32 => shX0_isWord_L18 (nI s) k (nI n) w s') 0 = some (Sum.inl ()) := by
      refine lp_to (fun x => nI x) x0 (fun x hx => ?_) ?_
      · show shX0_isWord_L18 (nI s) k (nI n) w (nI x) = _
        unfold shX0_isWord_L18
        have g := h2 x hx
        rw [if_neg (nI_ge (by omega) (by omega)), nI_add, at_c (by omega) hn, bind_s, gd_nI (k := x) (by omega) (by omega), cl (by omega), bind_s, if_pos (Classical.byContradiction fun g2 => g ⟨by omega, g2⟩), nI_1]
      · show shX0_isWord_L18 (nI s) k (nI n) w (nI x0) = _
        unfold shX0_isWord_L18
        rw [if_neg (nI_ge h0 (by omega)), nI_add, at_c (by omega) hn, bind_s, gd_nI (k := x0) (by omega) (by omega), cl (by omega), bind_s, if_neg h1]
    rw [key]; rfl
  · rw [if_neg (fun g => c ((nI_eq (by omega) (by omega)).mp g))]
def bs (k : Nat) : Nat := [0, 5, 9, 14].getD k 0
theorem bs_f : (∀ k, k < 3 → (∀ x, x < sN k → wordsF (bs k + x) = sC k x ∧ ¬ wordsF (bs k + x) = 32) ∧ wordsF (bs k + sN k) = 32 ∧ bs k + (sN k + 1) = bs (k + 1) ∧ bs k < 14 ∧ bs k + sN k < 14) := by decide
theorem wl_m {k : Nat} (hk : k < 3) {wd : Nat → Int32} (hw : IWd wd) : lp (fun s : Int32 => shX7_wordAt_L18 wd (nI (bs k)) s) 0 = some (nI (sN k)) := by
  obtain ⟨b1, b2⟩ := sN_b k hk
  obtain ⟨f1, f2, f3, f4, f5⟩ := bs_f k hk
  refine lp_to (fun x => nI x) (sN k) (fun x hx => ?_) ?_
  · show shX7_wordAt_L18 wd (nI (bs k)) (nI x) = _
    unfold shX7_wordAt_L18
    rw [nI_add, gd_nI (k := bs k + x) (by omega) (by decide), cl (by omega), bind_s, hw _ (by omega), if_neg (f1 x hx).2, nI_1]
  · show shX7_wordAt_L18 wd (nI (bs k)) (nI (sN k)) = _
    unfold shX7_wordAt_L18
    rw [nI_add, gd_nI (k := bs k + sN k) (by omega) (by decide), cl (by omega), bind_s, hw _ (by omega), if_pos f2]
theorem wc_m {s j k n : Nat} (hsj : s ≤ j) (hj : j ≤ n) (hn : n ≤ 200) (hk : k < 3) {w wd : Nat → Int32} (hw : IWd wd) (p : Prop) [Decidable p] (hp : p ↔ WD w s j k) : lp (fun q : Int32 × Int32 => shX7_wordAt_L57 (nI s) w wd (nI (bs k)) (nI (sN k)) q.1 q.2) ((if ¬ nI (sN k) = nI j - nI s then 0 else 1), 0) = some (if p then 1 else 0) := by
  obtain ⟨b1, b2⟩ := sN_b k hk
  obtain ⟨f1, f2, f3, f4, f5⟩ := bs_f k hk
  rw [pk_sub hsj]
  by_cases c : j - s = sN k
  · rw [c, if_neg (not_not_intro rfl)]
    have step : ∀ x, x < sN k → w (s + x) = sC k x → shX7_wordAt_L57 (nI s) w wd (nI (bs k)) (nI (sN k)) 1 (nI x) = some (.inl (1, nI (x + 1))) := fun x hx hwx => by
      unfold shX7_wordAt_L57 shX7_wordAt_k57_96
      rw [if_neg (nI_ge hx (by omega)), if_neg z10, nI_add, nI_add, gd_nI (k := bs k + x) (by omega) (by decide), gd_nI (k := s + x) (by omega) (by decide), cl (n := bs k + x) (by omega), cl (n := s + x) (by omega), bind_s, bind_s, hw _ (by omega), (f1 x hx).1, hwx, if_neg (not_not_intro rfl), nI_1]
    by_cases hW : ∀ x, x < sN k → w (s + x) = sC k x
    · rw [if_pos (hp.mpr ⟨c, hW⟩)]
      refine lp_to (fun x => ((1 : Int32), nI x)) (sN k) (fun x hx => step x hx (hW x hx)) ?_
      show shX7_wordAt_L57 (nI s) w wd (nI (bs k)) (nI (sN k)) 1 (nI (sN k)) = _
      unfold shX7_wordAt_L57
      rw [if_pos (nI_le (Nat.le_refl _) (by omega))]
    · rw [if_neg (fun g => hW (hp.mp g).2)]
      have hx : ∃ x, x < sN k ∧ ¬ w (s + x) = sC k x := Classical.byContradiction fun g => hW (fun x hx => Classical.byContradiction fun g2 => g ⟨x, hx, g2⟩)
      obtain ⟨x0, ⟨h0, h1⟩, h2⟩ := pk_least _ hx
      have e := lp_st (f := fun q : Int32 × Int32 => shX7_wordAt_L57 (nI s) w wd (nI (bs k)) (nI (sN k)) q.1 q.2) (fun x => ((1 : Int32), nI x)) x0 (fun x hx => step x (by omega) (Classical.byContradiction fun g2 => h2 x hx ⟨by omega, g2⟩))
      have e' : lp (fun q : Int32 × Int32 => shX7_wordAt_L57 (nI s) w wd (nI (bs k)) (nI (sN k)) q.1 q.2) (1, 0) = lp (fun q : Int32 × Int32 => shX7_wordAt_L57 (nI s) w wd (nI (bs k)) (nI (sN k)) q.1 q.2) (1, nI x0) := e
      rw [e', lp_inl (f := fun q : Int32 × Int32 => shX7_wordAt_L57 (nI s) w wd (nI (bs k)) (nI (sN k)) q.1 q.2) (s := (1, nI x0)) (s' := (0, nI (x0 + 1))) (by
        show shX7_wordAt_L57 (nI s) w wd (nI (bs k)) (nI (sN k)) 1 (nI x0) = _
        unfold shX7_wordAt_L57 shX7_wordAt_k57_96
        rw [if_neg (nI_ge h0 (by omega)), if_neg z10, nI_add, nI_add, gd_nI (k := bs k + x0) (by omega) (by decide), gd_nI (k := s + x0) (by omega) (by decide), cl (n := bs k + x0) (by omega), cl (n := s + x0) (by omega), bind_s, bind_s, hw _ (by omega), (f1 x0 h0).1, if_pos (fun g => h1 g.symm), nI_1])]
      refine lp_inr ?_
      show shX7_wordAt_L57 (nI s) w wd (nI (bs k)) (nI (sN k)) 0 (nI (x0 + 1)) = _
      unfold shX7_wordAt_L57
      rw [if_pos rfl]
      split <;> rfl
  · rw [if_pos (fun g => c ((nI_eq (a := sN k) (b := j - s) (by omega) (by omega)).mp g).symm), if_neg (fun g => c (hp.mp g).1)]
    refine lp_inr ?_
    show shX7_wordAt_L57 (nI s) w wd (nI (bs k)) (nI (sN k)) 0 0 = _
    unfold shX7_wordAt_L57
    rw [if_pos rfl]
    split <;> rfl
/-- which word stands there, as both say -/
theorem wd_both {s j n : Nat} (hsj : s ≤ j) (hj : j ≤ n) (hn : n ≤ 200) {w w' wd : Nat → Int32} (hw : IWd wd) (hww : ∀ j, j < n → w j = w' j) : ∃ z : Int32, shX0_readWord_j_43 (nI n) w (nI s) (nI j) = some (z, nI j) ∧ shX7_wordAt (nI s) (nI j) w' wd = some z ∧ ((z = -1) ∨ ∃ k, k < 3 ∧ z = nI k ∧ s < j) := by
  have hWD : ∀ k, k < 3 → (WD w' s j k ↔ WD w s j k) := fun k hk => by
    obtain ⟨b1, b2⟩ := sN_b k hk
    exact ⟨fun h => ⟨h.1, fun x hx => by have := h.1; rw [hww _ (by omega)]; exact h.2 x hx⟩, fun h => ⟨h.1, fun x hx => by have := h.1; rw [← hww _ (by omega)]; exact h.2 x hx⟩⟩
  have body : ∀ k, k < 3 → ∀ (p : Prop) [Decidable p], (p ↔ WD w' s j k) → shX7_wordAt_L5 (nI s) (nI j) w' wd (nI k) (nI (bs k)) = some (if p then .inr (.inl (nI k)) else .inl (nI (k + 1), nI (bs (k + 1)))) := fun k hk p _ hp => by
    obtain ⟨b1, b2⟩ := sN_b k hk
    obtain ⟨f1, f2, f3, f4, f5⟩ := bs_f k hk
    have hc := wc_m hsj hj hn hk hw p hp
    unfold shX7_wordAt_L5 shX7_wordAt_k5_39
    rw [if_neg (show ¬ (14 : Int32) ≤ nI (bs k) from nI_ge (b := 14) f4 (by decide)), wl_m hk hw, bind_s]
    have hgo : (if ¬ nI (sN k) = nI j - nI s then shX7_wordAt_k5_52 (nI s) w' wd (nI k) (nI (bs k)) 0 (nI (sN k)) else shX7_wordAt_k5_52 (nI s) w' wd (nI k) (nI (bs k)) 1 (nI (sN k))) = shX7_wordAt_k5_52 (nI s) w' wd (nI k) (nI (bs k)) (if ¬ nI (sN k) = nI j - nI s then 0 else 1) (nI (sN k)) := by split <;> rfl
    rw [hgo]
    unfold shX7_wordAt_k5_52 shX7_wordAt_k5_104
    rw [hc, bind_s]
    by_cases c : p
    · rw [if_pos c, if_pos c, i10]
    · rw [if_neg c, if_neg c, i00, nI_1, nI_1, nI_add, f3]
  have en : shX7_wordAt_L5 (nI s) (nI j) w' wd (nI 3) (nI (bs 3)) = some (.inr (.inr ())) := by
    unfold shX7_wordAt_L5
    rw [if_pos (by decide)]
  have cls : ∀ k, Decidable (WD w s j k) := fun k => Classical.propDecidable _
  have nz : ∀ k, k < 3 → WD w s j k → s < j := fun k hk h => by
    obtain ⟨b1, b2⟩ := sN_b k hk
    have := h.1
    omega
  unfold shX0_readWord_j_43 shX7_wordAt shX7_wordAt_j_109 shX7_wordAt_j_126
  have s0 := @body 0 (by decide) (WD w s j 0) (cls 0) (hWD 0 (by decide)).symm
  have s1 := @body 1 (by decide) (WD w s j 1) (cls 1) (hWD 1 (by decide)).symm
  have s2 := @body 2 (by decide) (WD w s j 2) (cls 2) (hWD 2 (by decide)).symm
  by_cases c0 : WD w s j 0
  · rw [if_pos c0] at s0
    refine ⟨0, ?_, ?_, Or.inr ⟨0, by decide, rfl, nz 0 (by decide) c0⟩⟩
    · rw [iw_t hsj hj hn (by decide) c0, bind_s, i10]
    · rw [lp_inr (f := fun q : Int32 × Int32 => shX7_wordAt_L5 (nI s) (nI j) w' wd q.1 q.2) (s := (0, 0)) s0]; rfl
  · rw [if_neg c0] at s0
    by_cases c1 : WD w s j 1
    · rw [if_pos c1] at s1
      refine ⟨1, ?_, ?_, Or.inr ⟨1, by decide, rfl, nz 1 (by decide) c1⟩⟩
      · rw [iw_f hsj hj hn (by decide) c0, iw_t hsj hj hn (by decide) c1, bind_s, i00, bind_s, i10]
      · rw [lp_inl (f := fun q : Int32 × Int32 => shX7_wordAt_L5 (nI s) (nI j) w' wd q.1 q.2) (s := (0, 0)) s0, lp_inr (f := fun q : Int32 × Int32 => shX7_wordAt_L5 (nI s) (nI j) w' wd q.1 q.2) (s := (nI (0 + 1), nI (bs (0 + 1)))) s1]; rfl
    · rw [if_neg c1] at s1
      by_cases c2 : WD w s j 2
      · rw [if_pos c2] at s2
        refine ⟨2, ?_, ?_, Or.inr ⟨2, by decide, rfl, nz 2 (by decide) c2⟩⟩
        · rw [iw_f hsj hj hn (by decide) c0, iw_f hsj hj hn (by decide) c1, iw_t hsj hj hn (by decide) c2, bind_s, i00, bind_s, i00, bind_s, i10]
        · rw [lp_inl (f := fun q : Int32 × Int32 => shX7_wordAt_L5 (nI s) (nI j) w' wd q.1 q.2) (s := (0, 0)) s0, lp_inl (f := fun q : Int32 × Int32 => shX7_wordAt_L5 (nI s) (nI j) w' wd q.1 q.2) (s := (nI (0 + 1), nI (bs (0 + 1)))) s1, lp_inr (f := fun q : Int32 × Int32 => shX7_wordAt_L5 (nI s) (nI j) w' wd q.1 q.2) (s := (nI (1 + 1), nI (bs (1 + 1)))) s2]; rfl
      · rw [if_neg c2] at s2
        refine ⟨-1, ?_, ?_, Or.inl rfl⟩
        · rw [iw_f hsj hj hn (by decide) c0, iw_f hsj hj hn (by decide) c1, iw_f hsj hj hn (by decide) c2, bind_s, i00, bind_s, i00, bind_s, i00]
        · rw [lp_inl (f := fun q : Int32 × Int32 => shX7_wordAt_L5 (nI s) (nI j) w' wd q.1 q.2) (s := (0, 0)) s0, lp_inl (f := fun q : Int32 × Int32 => shX7_wordAt_L5 (nI s) (nI j) w' wd q.1 q.2) (s := (nI (0 + 1), nI (bs (0 + 1)))) s1, lp_inl (f := fun q : Int32 × Int32 => shX7_wordAt_L5 (nI s) (nI j) w' wd q.1 q.2) (s := (nI (1 + 1), nI (bs (1 + 1)))) s2, lp_inr (f := fun q : Int32 × Int32 => shX7_wordAt_L5 (nI s) (nI j) w' wd q.1 q.2) (s := (nI (2 + 1), nI (bs (2 + 1)))) en]; rfl
/-! rules: the reference's tokens -/
theorem tk_end {e i : Nat} (he : e ≤ 200) (hi : i ≤ e) {w wd : Nat → Int32} (h : scn isB w e i = e) (kd wh pl : Int32) : shX7_take (nI e) (nI i) kd wh pl w wd = some (nI e, 0, wh, nI e) := by
  unfold shX7_take shX7_take_j_52
  rw [sb_m he w hi, bind_s, h, if_neg (not_not_intro rfl)]
theorem tk_word {e i : Nat} (he : e ≤ 200) (hi : i ≤ e) {w wd : Nat → Int32} {s : Nat} (h : scn isB w e i = s) (hs : s < e) (hL : isL (w s) = true) {z : Int32} (hz : shX7_wordAt (nI s) (nI (scn isL w e s)) w wd = some z) (kd wh pl : Int32) : shX7_take (nI e) (nI i) kd wh pl w wd = some (nI (scn isL w e s), if 0 ≤ z then 1 else 4, z, nI s) := by
  unfold shX7_take shX7_take_j_52 shX7_take_j_114 shX7_take_j_143
  rw [sb_m he w hi, bind_s, h, if_pos (fun g => by have := (nI_eq (a := s) (b := e) (by omega) (by omega)).mp g; omega), sm_m he w (by omega), bind_s, show (if s < e ∧ isL (w s) = true then (1 : Int32) else 0) = 1 from if_pos ⟨hs, hL⟩, i10, le_m he w (by omega), bind_s, hz, bind_s]
  split <;> rfl
theorem tk_num {e i : Nat} (he : e ≤ 200) (hi : i ≤ e) {w wd : Nat → Int32} {s : Nat} (h : scn isB w e i = s) (hs : s < e) (hL : ¬ isL (w s) = true) (hD : isD (w s) = true) (kd wh pl : Int32) : shX7_take (nI e) (nI i) kd wh pl w wd = some (nI (scn isD w e s), 2, nI (vR w (e - s) s 0), nI s) := by
  unfold shX7_take shX7_take_j_52 shX7_take_j_268
  rw [sb_m he w hi, bind_s, h, if_pos (fun g => by have := (nI_eq (a := s) (b := e) (by omega) (by omega)).mp g; omega), sm_m he w (by omega), bind_s, show (if s < e ∧ isL (w s) = true then (1 : Int32) else 0) = 0 from if_neg (fun g => hL g.2), i00, dg_m he w (by omega), bind_s, show (if s < e ∧ isD (w s) = true then (1 : Int32) else 0) = 1 from if_pos ⟨hs, hD⟩, i10, show ((nI s, (0 : Int32)) : Int32 × Int32) = (nI s, nI 0) from rfl, nu_m he w (e - s) s 0 (by omega) (by omega), bind_s]
  rfl
theorem tk_oth {e i : Nat} (he : e ≤ 200) (hi : i ≤ e) {w wd : Nat → Int32} {s : Nat} (h : scn isB w e i = s) (hs : s < e) (hL : ¬ isL (w s) = true) (hD : ¬ isD (w s) = true) (kd wh pl : Int32) : shX7_take (nI e) (nI i) kd wh pl w wd = some (nI (s + 1), if w s = 59 then 3 else 4, wh, nI s) := by
  unfold shX7_take shX7_take_j_52 shX7_take_j_255
  rw [sb_m he w hi, bind_s, h, if_pos (fun g => by have := (nI_eq (a := s) (b := e) (by omega) (by omega)).mp g; omega), sm_m he w (by omega), bind_s, show (if s < e ∧ isL (w s) = true then (1 : Int32) else 0) = 0 from if_neg (fun g => hL g.2), i00, dg_m he w (by omega), bind_s, show (if s < e ∧ isD (w s) = true then (1 : Int32) else 0) = 0 from if_neg (fun g => hD g.2), i00, gd_nI (k := s) (by omega) (by decide), cl (by omega), bind_s, nI_1]
  by_cases c : w s = 59
  · rw [if_neg (not_not_intro c), if_pos c]
  · rw [if_pos c, if_neg c]
