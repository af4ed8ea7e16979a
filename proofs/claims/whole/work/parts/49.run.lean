/-! rules: a line -/
theorem tk_any {e i s : Nat} (he : e ≤ 200) (hi : i ≤ e) {w wd : Nat → Int32} (hs : scn isB w e i = s) {z : Int32} (hz : shX7_wordAt (nI s) (nI (scn isL w e s)) w wd = some z) (kd wh pl : Int32) : ∃ nx kd' wc, shX7_take (nI e) (nI i) kd wh pl w wd = some (nx, kd', wc, nI s) ∧ (kd' = 1 → 0 ≤ z ∧ s < e) ∧ (kd' = 2 → s < e ∧ isD (w s) = true) ∧ (kd' = 3 → s < e ∧ w s = 59) ∧ (kd' = 0 ↔ s = e) := by
  have hse : s ≤ e := by rw [← hs]; exact (scn_b hi).2.1
  by_cases c : s = e
  · subst c
    exact ⟨_, _, _, tk_end he hi hs kd wh pl, fun h => absurd h (by decide), fun h => absurd h (by decide), fun h => absurd h (by decide), ⟨fun _ => rfl, fun _ => rfl⟩⟩
  · have hlt : s < e := by omega
    by_cases hL : isL (w s) = true
    · refine ⟨_, _, _, tk_word he hi hs hlt hL hz kd wh pl, ?_⟩
      by_cases h0 : 0 ≤ z
      · rw [if_pos h0]
        exact ⟨fun _ => ⟨h0, hlt⟩, fun h => absurd h (by decide), fun h => absurd h (by decide), ⟨fun h => absurd h (by decide), fun h => absurd h c⟩⟩
      · rw [if_neg h0]
        exact ⟨fun h => absurd h (by decide), fun h => absurd h (by decide), fun h => absurd h (by decide), ⟨fun h => absurd h (by decide), fun h => absurd h c⟩⟩
    · by_cases hD : isD (w s) = true
      · exact ⟨_, _, _, tk_num he hi hs hlt hL hD kd wh pl, fun h => absurd h (by decide), fun _ => ⟨hlt, hD⟩, fun h => absurd h (by decide), ⟨fun h => absurd h (by decide), fun h => absurd h c⟩⟩
      · refine ⟨_, _, _, tk_oth he hi hs hlt hL hD kd wh pl, ?_⟩
        by_cases h9 : w s = 59
        · rw [if_pos h9]
          exact ⟨fun h => absurd h (by decide), fun h => absurd h (by decide), fun _ => ⟨hlt, h9⟩, ⟨fun h => absurd h (by decide), fun h => absurd h c⟩⟩
        · rw [if_neg h9]
          exact ⟨fun h => absurd h (by decide), fun h => absurd h (by decide), fun h => absurd h (by decide), ⟨fun h => absurd h (by decide), fun h => absurd h c⟩⟩
def mst (k : Nat) : Nat := [999, 9, 9].getD k 0
def lst (k : Nat) : Nat := [0, 1, 0].getD k 0
theorem ml_f : ∀ k, k < 3 → tb_MOST k = nI (mst k) ∧ tb_LEAST k = nI (lst k) ∧ mst k ≤ 999 ∧ lst k ≤ 1 := by decide
theorem gz0 : gz 0 = some () := if_pos (Or.inl rfl)
theorem rn_c {e n s k : Nat} (he : e ≤ n) (hn : n ≤ 200) (hs : s ≤ e) (hk : k < 3) (w fr : Nat → Int32) (fk fp : Int32) (hv : vC w (e - s) s 0 ≤ 100000) : shX0_readNumber (nI k) fk fp (nI s) (nI e) fr (nI n) w = some (if scn isD w e s = s then (0, 1, nI s, nI (scn isD w e s), fr) else if vC w (e - s) s 0 < lst k ∨ mst k < vC w (e - s) s 0 then (0, 2, nI s, nI (scn isD w e s), fr) else (1, fk, fp, nI (scn isD w e s), upd fr k (nI (vC w (e - s) s 0)))) := by
  obtain ⟨m1, m2, m3, m4⟩ := ml_f k hk
  have hb := scn_b (P := isD) (w := w) hs
  unfold shX0_readNumber shX0_readNumber_j_70 shX0_readNumber_j_105 shX0_fail
  rw [show (((0 : Int32), nI s) : Int32 × Int32) = (nI 0, nI s) from rfl, nu_c he hn w (e - s) s 0 (by omega) (by omega), gd_nI (k := k) (by omega) (by decide), cl (n := k) (by omega), m1, m2]
  simp only [bind_s, gz0]
  show (if ¬ nI (scn isD w e s) = nI s then _ else _) = _
  by_cases c : scn isD w e s = s
  · rw [if_pos c, if_neg (not_not_intro (by rw [c]))]; rfl
  · rw [if_neg c, if_pos (fun g => c ((nI_eq (by omega) (by omega)).mp g))]
    by_cases c1 : vC w (e - s) s 0 < lst k
    · rw [if_pos (nI_lt c1 (by omega)), if_pos (Or.inl c1)]; rfl
    · rw [if_neg (nlt (by omega) (by omega))]
      by_cases c2 : vC w (e - s) s 0 ≤ mst k
      · rw [if_pos (nI_le c2 (by omega)), if_neg (by omega)]; rfl
      · rw [if_neg (nle (a := vC w (e - s) s 0) (b := mst k) (by omega) (by omega)), if_pos (Or.inr (by omega))]; rfl
theorem re_c {e n d : Nat} (he : e ≤ n) (hn : n ≤ 200) (hd : d ≤ e) (w : Nat → Int32) (fk fp : Int32) : shX0_readEnd fk fp (nI d) (nI e) (nI n) w = some (if scn isB w e d < e ∧ w (scn isB w e d) = 59 then (1, fk, fp, nI (scn isB w e d + 1)) else (0, 1, nI (scn isB w e d), nI (scn isB w e d))) := by
  have hb := scn_b (P := isB) (w := w) hd
  unfold shX0_readEnd shX0_readEnd_j_29 shX0_fail
  rw [sb_c he hn w hd]
  simp only [bind_s, gz0]
  by_cases c : scn isB w e d < e
  · rw [if_neg (nI_ge c (by omega)), at_c (by omega) hn, bind_s, nI_1]
    by_cases c2 : w (scn isB w e d) = 59
    · rw [if_pos c2, if_pos ⟨c, c2⟩]
    · rw [if_neg c2, if_neg (fun g => c2 g.2)]
  · rw [if_pos (nI_le (by omega) (by omega)), if_neg (fun g => c g.1)]
def LSt (fr td mtd : Nat → Int32) : Prop := ∀ k, k < 3 → (td k = 0 ∧ mtd k = -1 ∧ fr k = tb_UNTOLD k) ∨ (td k = 1 ∧ mtd k = fr k ∧ ∃ a : Nat, a ≤ mst k ∧ lst k ≤ a ∧ fr k = nI a)
def tn (td : Nat → Int32) : Nat := (if td 0 = 0 then 0 else 1) + (if td 1 = 0 then 0 else 1) + (if td 2 = 0 then 0 else 1)
theorem tn_le (td : Nat → Int32) : tn td ≤ 3 := by
  unfold tn
  split <;> split <;> split <;> omega
theorem tn_up {td : Nat → Int32} {k : Nat} (hk : k < 3) (h : td k = 0) : tn (upd td k 1) = tn td + 1 := by
  have : k = 0 ∨ k = 1 ∨ k = 2 := by omega
  rcases this with rfl | rfl | rfl
  · unfold tn; rw [upd_s, upd_n (by decide), upd_n (by decide), if_neg z10, if_pos h]; omega
  · unfold tn; rw [upd_s, upd_n (by decide), upd_n (by decide), if_neg z10, if_pos h]; omega
  · unfold tn; rw [upd_s, upd_n (by decide), upd_n (by decide), if_neg z10, if_pos h]
theorem LSt_up {fr td mtd : Nat → Int32} (h : LSt fr td mtd) {k a : Nat} (h1 : a ≤ mst k) (h2 : lst k ≤ a) : LSt (upd fr k (nI a)) (upd td k 1) (upd mtd k (nI a)) := by
  intro q hq
  by_cases c : q = k
  · subst c
    rw [upd_s, upd_s, upd_s]
    exact Or.inr ⟨rfl, rfl, a, h1, h2, rfl⟩
  · rw [upd_n c, upd_n c, upd_n c]
    exact h q hq
theorem ln_both {e n i i0 : Nat} (he : e ≤ n) (hn : n ≤ 200) {w w' wd : Nat → Int32} (hww : ∀ j, j < n → w j = w' j) (hw : IWd wd) (hi0 : i0 ≤ e) (hi : scn isB w' e i0 = i) (hie : i < e) {fr td mtd : Nat → Int32} (hL : LSt fr td mtd) {nx kd wc pc kd0 wh0 pl0 : Int32} (hT : shX7_take (nI e) (nI i0) kd0 wh0 pl0 w' wd = some (nx, kd, wc, pc)) :
    (∃ c p at' fr' td' nx' kd' wc' pc' mtd', shX0_readLine 0 (-1) (nI i) (nI e) fr td (nI n) w = some (0, c, p, at', fr', td') ∧ shX7_line 0 (-1) (nI e) nx kd wc pc w' wd mtd = some (0, c, p, nx', kd', wc', pc', mtd')) ∨
    (∃ (i1 : Nat) (fr' td' : Nat → Int32) (kd' wc' pc' : Int32) (mtd' : Nat → Int32), i < i1 ∧ i1 ≤ e ∧ shX0_readLine 0 (-1) (nI i) (nI e) fr td (nI n) w = some (1, 0, -1, nI i1, fr', td') ∧ shX7_line 0 (-1) (nI e) nx kd wc pc w' wd mtd = some (1, 0, -1, nI i1, kd', wc', pc', mtd') ∧ LSt fr' td' mtd' ∧ tn td' = tn td + 1) := by
  have he2 : e ≤ 200 := by omega
  have hj := scn_b (P := isL) (w := w) (e := e) (i := i) (by omega)
  obtain ⟨z, z1, z2, z3⟩ := wd_both (s := i) (j := scn isL w e i) (n := n) hj.1 (by omega) hn hw hww
  have cj : scn isL w e i = scn isL w' e i := scn_congr (by omega) he hww
  have hword : shX0_readWord (nI i) (nI e) (nI n) w = some (z, nI (scn isL w e i)) := by
    unfold shX0_readWord
    rw [le_c he hn w (by omega), bind_s, z1]
  have z2' := z2
  rw [cj] at z2'
  obtain ⟨nx1, kd1, wc1, t1, t2, t3, t4, t5⟩ := tk_any he2 hi0 hi z2' kd0 wh0 pl0
  rw [t1] at hT
  obtain ⟨rfl, rfl, rfl, rfl⟩ : nx1 = nx ∧ kd1 = kd ∧ wc1 = wc ∧ nI i = pc := by simpa using hT
  unfold shX0_readLine shX7_line
  rw [hword, bind_s]
  dsimp only
  rcases z3 with rfl | ⟨k, hk, rfl, hij⟩
  · left
    rw [if_neg (not_not_intro rfl), if_neg (fun h => absurd (t2 h).1 (by decide))]
    unfold shX0_fail shX7_wrong
    simp only [bind_s, gz0]
    exact ⟨_, _, _, _, _, _, _, _, _, _, rfl, rfl⟩
  · have hLi : isL (w' i) = true := by
      refine Classical.byContradiction fun g => ?_
      have := scn_st (P := isL) (w := w') (e := e) (i := i) (fun _ => by simpa using g)
      omega
    have tw := tk_word he2 hi0 hi hie hLi z2' kd0 wh0 pl0
    rw [if_pos (nI_pos' (by omega)), t1] at tw
    obtain ⟨rfl, rfl, rfl⟩ : nx1 = nI (scn isL w' e i) ∧ kd1 = 1 ∧ wc1 = nI k := by simpa using tw
    rw [if_pos (ne_m1 (by omega)), if_pos rfl, gd_nI (k := k) hk (by decide), cl (n := k) (by omega)]
    simp only [bind_s]
    rcases hL k hk with ⟨l1, l2, l3⟩ | ⟨l1, l2, a, la1, la2, l3⟩
    · rw [if_pos l1, if_pos (show mtd k < 0 by rw [l2]; decide), sb_c he hn w hj.2.1, ← cj]
      simp only [bind_s]
      generalize hjj : scn isL w e i = j at *
      have hs2 := scn_b (P := isB) (w := w) (e := e) (i := j) hj.2.1
      have cs2 : scn isB w e j = scn isB w' e j := scn_congr hj.2.1 he hww
      generalize hss : scn isB w e j = s2 at *
      have hdd := scn_b (P := isD) (w := w) (e := e) (i := s2) hs2.2.1
      have cdd : scn isD w e s2 = scn isD w' e s2 := scn_congr hs2.2.1 he hww
      have hNR : NR (vC w (e - s2) s2 0) (vR w' (e - s2) s2 0) := vCR (e - s2) s2 0 0 (fun q h1 h2 => hww q (by omega)) (Or.inl ⟨rfl, by omega⟩)
      have hvb : vC w (e - s2) s2 0 ≤ 100000 := by rcases hNR with h | h <;> omega
      rw [rn_c he hn hs2.2.1 hk w fr 0 (-1) hvb]
      simp only [bind_s]
      obtain ⟨y, -, y2, -⟩ := wd_both (s := s2) (j := scn isL w e s2) (n := n) (w := w) (w' := w') (scn_b (P := isL) (w := w) (e := e) (i := s2) hs2.2.1).1 (by have := (scn_b (P := isL) (w := w) (e := e) (i := s2) hs2.2.1).2.1; omega) hn hw hww
      rw [scn_congr (P := isL) (w := w) (w' := w') hs2.2.1 he hww] at y2
      by_cases cd : scn isD w e s2 = s2
      · left
        obtain ⟨nx2, kd2, wc2, u1, u2, u3, u4, u5⟩ := tk_any he2 hj.2.1 cs2.symm y2 1 (nI k) (nI i)
        have nk : ¬ kd2 = 2 := fun h => by
          obtain ⟨h1, h2⟩ := u3 h
          have := scn_ne (P := isD) (w := w) (e := e) (i := s2) h1 (by rw [hww s2 (by omega)]; exact h2)
          omega
        rw [u1, if_pos cd]
        simp only [bind_s, ↓reduceIte]
        rw [if_neg nk]
        unfold shX7_wrong
        simp only [bind_s, gz0]
        exact ⟨_, _, _, _, _, _, _, _, _, _, rfl, rfl⟩
      · have hsd : s2 < e ∧ isD (w' s2) = true := by
          by_cases g : s2 < e
          · refine ⟨g, Classical.byContradiction fun g2 => cd ?_⟩
            exact scn_st (P := isD) (w := w) (e := e) (i := s2) (fun _ => by rw [hww s2 (by omega)]; simpa using g2)
          · exact absurd (scn_st (P := isD) (w := w) (e := e) (i := s2) (fun h => absurd h g)) cd
        have hnl : ¬ isL (w' s2) = true := by
          have h2 := hsd.2
          simp only [isD, isL, decide_eq_true_eq, ltI] at h2 ⊢
          rw [show (48 : Int32).toInt = 48 from rfl, show (57 : Int32).toInt = 57 from rfl] at h2
          rw [show (97 : Int32).toInt = 97 from rfl, show (122 : Int32).toInt = 122 from rfl]
          omega
        rw [tk_num he2 hj.2.1 cs2.symm hsd.1 hnl hsd.2 1 (nI k) (nI i), ← cdd, if_neg cd]
        simp only [bind_s, ↓reduceIte]
        obtain ⟨m1, m2, m3, m4⟩ := ml_f k hk
        generalize hdv : scn isD w e s2 = d at *
        have hvR : vR w' (e - s2) s2 0 ≤ 99999 := by rcases hNR with h | h <;> omega
        have hgo : (if ¬ nI k = 0 then shX7_line_j_80 0 (-1) (nI e) w' wd mtd (nI (vR w' (e - s2) s2 0)) 9 (nI k) (nI d) 2 (nI (vR w' (e - s2) s2 0)) (nI s2) else shX7_line_j_80 0 (-1) (nI e) w' wd mtd (nI (vR w' (e - s2) s2 0)) 999 (nI k) (nI d) 2 (nI (vR w' (e - s2) s2 0)) (nI s2)) = shX7_line_j_80 0 (-1) (nI e) w' wd mtd (nI (vR w' (e - s2) s2 0)) (nI (mst k)) (nI k) (nI d) 2 (nI (vR w' (e - s2) s2 0)) (nI s2) := by
          have : k = 0 ∨ k = 1 ∨ k = 2 := by omega
          rcases this with rfl | rfl | rfl <;> rfl
        rw [hgo]
        unfold shX7_line_j_80
        by_cases cr : vC w (e - s2) s2 0 < lst k ∨ mst k < vC w (e - s2) s2 0
        · left
          rw [if_pos cr]
          simp only [bind_s, ↓reduceIte]
          have hres : (if nI (mst k) < nI (vR w' (e - s2) s2 0) then shX7_line_j_96 0 (-1) mtd (nI d) 2 (nI (vR w' (e - s2) s2 0)) (nI s2) else if ¬ nI k = 1 then shX7_line_j_106 0 (-1) (nI e) w' wd mtd (nI k) (nI d) 2 (nI (vR w' (e - s2) s2 0)) (nI s2) else if 1 ≤ nI (vR w' (e - s2) s2 0) then shX7_line_j_106 0 (-1) (nI e) w' wd mtd (nI k) (nI d) 2 (nI (vR w' (e - s2) s2 0)) (nI s2) else shX7_line_j_96 0 (-1) mtd (nI d) 2 (nI (vR w' (e - s2) s2 0)) (nI s2)) = shX7_line_j_96 0 (-1) mtd (nI d) 2 (nI (vR w' (e - s2) s2 0)) (nI s2) := by
            by_cases cm : mst k < vR w' (e - s2) s2 0
            · rw [if_pos (nI_lt cm (by omega))]
            · have hk1 : k = 1 := by
                have : k = 0 ∨ k = 1 ∨ k = 2 := by omega
                rcases this with rfl | rfl | rfl
                · exfalso; simp only [lst, mst, List.getD] at cr cm; rcases hNR with h | h <;> simp at cr cm <;> omega
                · rfl
                · exfalso; simp only [lst, mst, List.getD] at cr cm; rcases hNR with h | h <;> simp at cr cm <;> omega
              subst hk1
              have hv0 : vR w' (e - s2) s2 0 = 0 := by simp only [lst, mst, List.getD] at cr cm; rcases hNR with h | h <;> simp at cr cm <;> omega
              rw [hv0]
              rfl
          rw [hres]
          unfold shX7_line_j_96 shX7_wrong
          simp only [bind_s, gz0]
          exact ⟨_, _, _, _, _, _, _, _, _, _, rfl, rfl⟩
        · rw [if_neg cr]
          simp only [bind_s, i10]
          have hve : vR w' (e - s2) s2 0 = vC w (e - s2) s2 0 := by rcases hNR with h | h <;> omega
          rw [hve]
          generalize vC w (e - s2) s2 0 = v at *
          have hres : (if nI (mst k) < nI v then shX7_line_j_96 0 (-1) mtd (nI d) 2 (nI v) (nI s2) else if ¬ nI k = 1 then shX7_line_j_106 0 (-1) (nI e) w' wd mtd (nI k) (nI d) 2 (nI v) (nI s2) else if 1 ≤ nI v then shX7_line_j_106 0 (-1) (nI e) w' wd mtd (nI k) (nI d) 2 (nI v) (nI s2) else shX7_line_j_96 0 (-1) mtd (nI d) 2 (nI v) (nI s2)) = shX7_line_j_106 0 (-1) (nI e) w' wd mtd (nI k) (nI d) 2 (nI v) (nI s2) := by
            rw [if_neg (nlt (by omega) (by omega))]
            by_cases ck : nI k = 1
            · have hk1 : k = 1 := (nI_eq (b := 1) (by omega) (by omega)).mp ck
              subst hk1
              rw [if_neg (not_not_intro ck), if_pos (show (1 : Int32) ≤ nI v from nI_le (a := 1) (by simp only [lst, mst, List.getD] at cr; simp at cr; omega) (by omega))]
            · rw [if_pos ck]
          rw [hres]
          unfold shX7_line_j_106
          rw [gd_nI (k := k) hk (by decide), cl (n := k) (by omega), re_c he hn hdd.2.1 w 0 (-1)]
          simp only [bind_s]
          have hs3 := scn_b (P := isB) (w := w) (e := e) (i := d) hdd.2.1
          have cs3 : scn isB w e d = scn isB w' e d := scn_congr hdd.2.1 he hww
          generalize hs3v : scn isB w e d = s3 at *
          have n1 : vp_nar .boolean 1 = 1 := by decide
          by_cases ce : s3 < e ∧ w s3 = 59
          · right
            have c9 : w' s3 = 59 := by rw [← hww s3 (by omega)]; exact ce.2
            have tk := tk_oth (wd := wd) he2 hdd.2.1 cs3.symm ce.1 (by rw [c9]; decide) (by rw [c9]; decide) 2 (nI v) (nI s2)
            rw [if_pos c9] at tk
            rw [if_pos ce, tk]
            simp only [bind_s, i10, ↓reduceIte, n1]
            refine ⟨s3 + 1, _, _, _, _, _, _, by omega, by omega, rfl, rfl, ?_, tn_up hk l1⟩
            exact LSt_up hL (by omega) (by omega)
          · left
            obtain ⟨x, -, x2, -⟩ := wd_both (s := s3) (j := scn isL w e s3) (n := n) (w := w) (w' := w') (scn_b (P := isL) (w := w) (e := e) (i := s3) hs3.2.1).1 (by have := (scn_b (P := isL) (w := w) (e := e) (i := s3) hs3.2.1).2.1; omega) hn hw hww
            rw [scn_congr (P := isL) (w := w) (w' := w') hs3.2.1 he hww] at x2
            obtain ⟨nx2, kd2, wc2, u1, u2, u3, u4, u5⟩ := tk_any he2 hdd.2.1 cs3.symm x2 2 (nI v) (nI s2)
            have nk : ¬ kd2 = 3 := fun h => ce ⟨(u4 h).1, by rw [hww s3 (by have := (u4 h).1; omega)]; exact (u4 h).2⟩
            rw [if_neg ce, u1]
            simp only [bind_s, ↓reduceIte]
            rw [if_neg nk]
            unfold shX7_wrong
            simp only [bind_s, ↓reduceIte]
            exact ⟨_, _, _, _, _, _, _, _, _, _, rfl, rfl⟩
    · left
      rw [if_neg (show ¬ td k = 0 by rw [l1]; exact z10), if_neg (show ¬ mtd k < 0 by rw [l2, l3]; exact nlt0 (by have := (ml_f k hk).2.2.1; omega))]
      unfold shX0_fail shX7_wrong
      simp only [bind_s, gz0]
      exact ⟨_, _, _, _, _, _, _, _, _, _, rfl, rfl⟩
