/-! a loop that runs through known states -/
theorem lp_st {σ ρ : Type} {f : σ → Option (σ ⊕ ρ)} (st : Nat → σ) : ∀ n : Nat, (∀ i, i < n → f (st i) = some (.inl (st (i + 1)))) → lp f (st 0) = lp f (st n) := by
  intro n
  induction n with
  | zero => intro _; rfl
  | succ n ih => intro h; rw [ih (fun i hi => h i (by omega)), lp_inl (h n (by omega))]
theorem lp_to {σ ρ : Type} {f : σ → Option (σ ⊕ ρ)} (st : Nat → σ) (n : Nat) {r : ρ} (h : ∀ i, i < n → f (st i) = some (.inl (st (i + 1)))) (hr : f (st n) = some (.inr r)) : lp f (st 0) = some r := by rw [lp_st st n h, lp_inr hr]
/-! count -/
def sPW (P W : Nat → Int32) : Nat → Int32
  | 0 => 0
  | n + 1 => if W (n + 1) = -1 then sPW P W n else sPW P W n + P (n + 1)
def sPi (ps : Nat → Nat) : Nat → Nat
  | 0 => 0
  | n + 1 => sPi ps n + ps n
theorem pw_c {n : Nat} (hn : n ≤ 7) (P W : Nat → Int32) : shX4_peopleWithWater (nI n) P W = some (sPW P W n) := by
  have h : lp (fun s : Int32 × Int32 => shX4_peopleWithWater_L4 (nI n) P W s.1 s.2) (0, 1) = some (sPW P W n) := by
    refine lp_to (fun i => (sPW P W i, nI (i + 1))) n (fun i hi => ?_) ?_
    · show shX4_peopleWithWater_L4 (nI n) P W (sPW P W i) (nI (i + 1)) = some (.inl (sPW P W (i + 1), nI (i + 1 + 1)))
      unfold shX4_peopleWithWater_L4 shX4_hasWell shX4_peopleWithWater_k4_29
      rw [if_neg (nlt (a := n) (b := i + 1) (by omega) (by omega)), gd_nI (k := i + 1) (by omega) (by decide), cl (by omega), nI_1]
      simp only [bind_s]
      by_cases c : W (i + 1) = -1
      · rw [if_pos c, bind_s, if_pos rfl, sPW, if_pos c]
      · rw [if_neg c, bind_s, if_neg (by decide), sPW, if_neg c]
    · show shX4_peopleWithWater_L4 (nI n) P W (sPW P W n) (nI (n + 1)) = some (.inr (sPW P W n))
      unfold shX4_peopleWithWater_L4
      rw [if_pos (nI_lt (by omega) (by omega))]
  unfold shX4_peopleWithWater shX4_peopleWithWater_j_35
  rw [h, bind_s]
theorem pw_m {n : Nat} (hn : n ≤ 7) (P W MP MW : Nat → Int32) (hh : ∀ v, 1 ≤ v → v ≤ n → P v = MP v ∧ ((W v = -1 ∧ MW v = 0) ∨ ∃ k : Nat, 1 ≤ k ∧ k ≤ 4 ∧ W v = nI k ∧ MW v = nI k)) : lp (fun s : Int32 × Int32 => shX7_count_L70 (nI n) MP MW s.1 s.2) (0, 1) = some (sPW P W n) := by
  refine lp_to (fun i => (sPW P W i, nI (i + 1))) n (fun i hi => ?_) ?_
  · show shX7_count_L70 (nI n) MP MW (sPW P W i) (nI (i + 1)) = some (.inl (sPW P W (i + 1), nI (i + 1 + 1)))
    unfold shX7_count_L70 shX7_count_k70_98
    rw [if_neg (nlt (a := n) (b := i + 1) (by omega) (by omega)), gd_nI (k := i + 1) (by omega) (by decide), cl (by omega), nI_1]
    simp only [bind_s]
    obtain ⟨e, c | ⟨k, k1, k2, c1, c2⟩⟩ := hh (i + 1) (by omega) (by omega)
    · rw [if_pos (show MW (i + 1) ≤ 0 by rw [c.2]; decide), Int32.add_zero, sPW, if_pos c.1]
    · rw [if_neg (show ¬ MW (i + 1) ≤ 0 by rw [c2]; exact nI_nle (by omega) (by omega)), sPW, if_neg (show ¬ W (i + 1) = -1 by rw [c1]; exact ne_m1 (by omega)), e]
  · show shX7_count_L70 (nI n) MP MW (sPW P W n) (nI (n + 1)) = some (.inr (sPW P W n))
    unfold shX7_count_L70
    rw [if_pos (nI_lt (by omega) (by omega))]
theorem al_c {n : Nat} (hn : n ≤ 4) {w : Nat → Int32} {ps : Nat → Nat} (hw : ∀ r, r < 4 → w r = nI (ps r)) (h0 : ∀ r, n ≤ r → ps r = 0) : shX2_allPipes (nI n) w = some (nI (ps 0 + ps 1 + ps 2 + ps 3)) := by
  have h : lp (fun s : Int32 × Int32 => shX2_allPipes_L4 (nI n) w s.1 s.2) (0, 0) = some (nI (sPi ps n)) := by
    refine lp_to (fun i => (nI (sPi ps i), nI i)) n (fun i hi => ?_) ?_
    · show shX2_allPipes_L4 (nI n) w (nI (sPi ps i)) (nI i) = some (.inl (nI (sPi ps (i + 1)), nI (i + 1)))
      unfold shX2_allPipes_L4
      rw [if_neg (nI_ge hi (by omega)), gd_nI (k := i) (by omega) (by decide), cl (by omega), nI_1, hw i (by omega), nI_add, bind_s]
      rfl
    · show shX2_allPipes_L4 (nI n) w (nI (sPi ps n)) (nI n) = some (.inr (nI (sPi ps n)))
      unfold shX2_allPipes_L4
      rw [if_pos (nI_le (Nat.le_refl _) (by omega))]
  have e : ∀ k, sPi ps (n + k) = sPi ps n := by
    intro k
    induction k with
    | zero => rfl
    | succ k ih => show sPi ps (n + k) + ps (n + k) = _; rw [ih, h0 (n + k) (by omega)]; rfl
  have e4 := e (4 - n)
  rw [show n + (4 - n) = 4 by omega] at e4
  unfold shX2_allPipes shX2_allPipes_j_27
  rw [h, bind_s, ← e4]
  show some (nI (0 + ps 0 + ps 1 + ps 2 + ps 3)) = _
  rw [Nat.zero_add]
theorem pu_count {rs : Int32} {rp rc rw' rb rpi : Nat → Int32} {mr : Int32} {mp mpi mpipe mmet mch : Nat → Int32} {mall : Int32} (hK : IK rs rp rc rw' rb rpi mr mp mpi mpipe mmet mch mall) {vs : Int32} {vr vp vb vw ve vu : Nat → Int32} {mv : Int32} {xr xp xb xw xe xu : Nat → Int32} (hV : IV rs vs vr vp vb vw ve vu mv xr xp xb xw xe xu) {rgp day mat mday : Int32} (hG : IG vs rgp day mat mday) (a th : Int32) :
    ∃ o o', shX6_count a rgp day rs rpi vs vp vw = some o ∧ shX7_count a th mr mv mday mat mall xp xw = some o' ∧ o = o'.1 := by
  obtain ⟨n, ps, hn, rfl, rfl, hp, hc, hps, hp0, hpp, hct, rfl⟩ := hK
  obtain ⟨m, nr, hm, rfl, rfl, hnr, e3, hv⟩ := hV
  obtain ⟨i, d, n', hn', hn7, hi, hd, rfl, rfl, rfl, rfl⟩ := hG
  unfold shX6_count shX7_count shX2_size shX4_size shX7_count_j_106
  rw [pw_c hm, al_c hn (fun r hr => (hps r hr).2.1) hp0, pw_m hm vp vw xp xw (fun v h1 h2 => ⟨(hv v h1 h2).2.1.1, (hv v h1 h2).2.2.2.1.imp (fun h => ⟨h.1, h.2.1⟩) id⟩)]
  simp only [bind_s]
  by_cases c0 : a = 0
  · rw [if_pos c0, if_pos c0]; exact ⟨_, _, rfl, rfl, rfl⟩
  · rw [if_neg c0, if_neg c0]
    by_cases c1 : a = 1
    · rw [if_pos c1, if_pos c1]; exact ⟨_, _, rfl, rfl, rfl⟩
    · rw [if_neg c1, if_neg c1]
      by_cases c2 : a = 2
      · rw [if_pos c2, if_pos c2]; exact ⟨_, _, rfl, rfl, rfl⟩
      · rw [if_neg c2, if_neg c2]
        by_cases c3 : a = 3
        · rw [if_pos c3, if_pos c3]; exact ⟨_, _, rfl, rfl, rfl⟩
        · rw [if_neg c3, if_neg c3]
          by_cases c4 : a = 4
          · rw [if_pos c4, if_pos c4]; exact ⟨_, _, rfl, rfl, rfl⟩
          · rw [if_neg c4, if_neg c4]
            by_cases c5 : a = 5
            · rw [if_pos c5, if_pos c5]; exact ⟨_, _, rfl, rfl, rfl⟩
            · rw [if_neg c5, if_neg c5]; exact ⟨_, _, rfl, rfl, rfl⟩
/-! feed -/
theorem tcond (x : Int32) : (x.toInt = (x.toBitVec.toNat : Int) ∧ 2 * x.toBitVec.toNat < 4294967296) ∨ (x.toInt = (x.toBitVec.toNat : Int) - 4294967296 ∧ ¬ 2 * x.toBitVec.toNat < 4294967296) := by
  have h : x.toInt = x.toBitVec.toInt := rfl
  rw [h, BitVec.toInt_eq_toNat_cond]
  by_cases c : 2 * x.toBitVec.toNat < 2 ^ 32
  · rw [if_pos c]; exact Or.inl ⟨rfl, c⟩
  · rw [if_neg c]; exact Or.inr ⟨rfl, c⟩
def bt (a s : Int32) : Int32 := ((a.toUInt32 >>> (s.toUInt32 &&& Int32.toUInt32 31)).toInt32 &&& 255)
def bm (i : Nat) (a : Int32) : Int32 := ((a >>> ((24 - (8 * (nI i - nI i / 4 * 4))) &&& 31)) &&& 255)
theorem by_eq (x s s' : Int32) (k : Nat) (hk : k = 0 ∨ k = 8 ∨ k = 16 ∨ k = 24) (hs : ((s.toUInt32 &&& Int32.toUInt32 31).toBitVec % 32).toNat = k) (hs' : (s'.toBitVec.smod 32).toNat = k) : bt x s = ((x >>> s') &&& 255) := by
  unfold bt
  rw [pk_and (x >>> s') 8 (by decide), pk_and _ 8 (by decide), pk_ushr x s k hs]
  congr 1
  have h1 := pk_shr x s' k hs'
  have h2 := tcond x
  have h3 := tcond (x >>> s')
  rw [h1, Int.shiftRight_eq_div_pow] at h3
  have h4 := x.toBitVec.isLt
  have h5 := (x >>> s').toBitVec.isLt
  rcases hk with rfl | rfl | rfl | rfl <;> (simp only [Nat.reducePow, Nat.reduceMul] at h3 h4 h5 ⊢; omega)
theorem ap_c (a : Int32) {n : Nat} (hn : n + 4 ≤ 200) (w : Nat → Int32) : shX3_append a (nI n) w = some (nI (n + 4), upd (upd (upd (upd w n (bt a 24)) (n + 1) (bt a 16)) (n + 2) (bt a 8)) (n + 3) (bt a 0)) := by
  have st : ∀ (x x' : Int32) (m : Nat) (w : Nat → Int32), ¬ x < 0 → m < 200 → x + -8 = x' → lp (fun s : Int32 × Int32 × (Nat → Int32) => shX3_append_L3 a s.1 s.2.1 s.2.2) (x, nI m, w) = lp (fun s : Int32 × Int32 × (Nat → Int32) => shX3_append_L3 a s.1 s.2.1 s.2.2) (x', nI (m + 1), upd w m (bt a x)) := by
    intro x x' m w hx hm hx'
    refine lp_inl ?_
    show shX3_append_L3 a x (nI m) w = _
    unfold shX3_append_L3
    rw [if_neg hx, if_neg (show ¬ (200 : Int32) ≤ nI m from nI_ge (b := 200) hm (by decide)), gd_nI hm (by decide), cl (by omega), nI_1, hx']
    rfl
  have fin : ∀ (m : Nat) (w : Nat → Int32), lp (fun s : Int32 × Int32 × (Nat → Int32) => shX3_append_L3 a s.1 s.2.1 s.2.2) (-8, nI m, w) = some (nI m, w) := fun m w => lp_inr (by
    show shX3_append_L3 a (-8) (nI m) w = _
    unfold shX3_append_L3
    rw [if_pos (by decide)])
  unfold shX3_append shX3_append_j_49
  rw [st 24 16 n w (by decide) (by omega) (by decide), st 16 8 (n + 1) _ (by decide) (by omega) (by decide), st 8 0 (n + 1 + 1) _ (by decide) (by omega) (by decide), st 0 (-8) (n + 1 + 1 + 1) _ (by decide) (by omega) (by decide), fin]
  rfl
def fsel (a1 a2 a3 a4 a5 : Int32) (i : Nat) : Int32 := if i < 4 then a1 else if i < 8 then a2 else if i < 12 then a3 else if i < 16 then a4 else a5
def fdF (a1 a2 a3 a4 a5 : Int32) (n : Nat) (w : Nat → Int32) : Nat → Nat → Int32
  | 0 => w
  | i + 1 => upd (fdF a1 a2 a3 a4 a5 n w i) (n + i) (bm i (fsel a1 a2 a3 a4 a5 i))
theorem fd_m (a1 a2 a3 a4 a5 : Int32) {n : Nat} (hn : n + 20 ≤ 200) (w : Nat → Int32) : lp (fun s : Int32 × (Nat → Int32) => shX7_feed_L23 a1 a2 a3 a4 a5 (nI n) s.1 s.2) (0, w) = some (fdF a1 a2 a3 a4 a5 n w 20) := by
  refine lp_to (fun i => (nI i, fdF a1 a2 a3 a4 a5 n w i)) 20 (fun i hi => ?_) ?_
  · show shX7_feed_L23 a1 a2 a3 a4 a5 (nI n) (nI i) (fdF a1 a2 a3 a4 a5 n w i) = some (.inl (nI (i + 1), upd (fdF a1 a2 a3 a4 a5 n w i) (n + i) (bm i (fsel a1 a2 a3 a4 a5 i))))
    have k : ∀ x, shX7_feed_k23_76 (nI n) (nI i) (fdF a1 a2 a3 a4 a5 n w i) x = some (.inl (nI (i + 1), upd (fdF a1 a2 a3 a4 a5 n w i) (n + i) (bm i x))) := by
      intro x
      unfold shX7_feed_k23_76
      rw [nI_add, gd_nI (k := n + i) (by omega) (by decide), cl (by omega), nI_1]
      rfl
    unfold shX7_feed_L23 fsel
    rw [k, k, k, k, k, if_neg (show ¬ (20 : Int32) ≤ nI i from nI_ge (b := 20) hi (by decide))]
    by_cases c4 : i < 4
    · rw [if_neg (show ¬ (4 : Int32) ≤ nI i from nI_ge (b := 4) c4 (by decide)), if_pos c4]
    · rw [if_pos (show (4 : Int32) ≤ nI i from nI_le (a := 4) (by omega) (by omega)), if_neg c4]
      by_cases c8 : i < 8
      · rw [if_neg (show ¬ (8 : Int32) ≤ nI i from nI_ge (b := 8) c8 (by decide)), if_pos c8]
      · rw [if_pos (show (8 : Int32) ≤ nI i from nI_le (a := 8) (by omega) (by omega)), if_neg c8]
        by_cases c12 : i < 12
        · rw [if_neg (show ¬ (12 : Int32) ≤ nI i from nI_ge (b := 12) c12 (by decide)), if_pos c12]
        · rw [if_pos (show (12 : Int32) ≤ nI i from nI_le (a := 12) (by omega) (by omega)), if_neg c12]
          by_cases c16 : i < 16
          · rw [if_neg (show ¬ (16 : Int32) ≤ nI i from nI_ge (b := 16) c16 (by decide)), if_pos c16]
          · rw [if_pos (show (16 : Int32) ≤ nI i from nI_le (a := 16) (by omega) (by omega)), if_neg c16]
  · show shX7_feed_L23 a1 a2 a3 a4 a5 (nI n) (nI 20) _ = _
    unfold shX7_feed_L23
    rw [if_pos (by decide)]
theorem ag_upd {u v : Nat → Int32} {m : Nat} {x y : Int32} (h : ∀ j, j < m → u j = v j) (e : x = y) : ∀ j, j < m + 1 → upd u m x j = upd v m y j := by
  intro j hj
  by_cases c : j = m
  · rw [c, upd_s, upd_s, e]
  · rw [upd_n c, upd_n c]; exact h j (by omega)
theorem pu_feed {tl : Int32} {tb : Nat → Int32} {ms : Int32} {mt : Nat → Int32} (h : IT tl tb ms mt) (a1 a2 a3 a4 a5 th : Int32) : ∃ o o', shX6_feed a1 a2 a3 a4 a5 tl tb = some o ∧ shX7_feed a1 a2 a3 a4 a5 ms th mt = some o' ∧ o.1 = o'.1 ∧ IT o.2.1 o.2.2 o'.2.1 o'.2.2.2 := by
  have h0 := h
  obtain ⟨n, hn, rfl, rfl, hj⟩ := h
  unfold shX6_feed shX7_feed shX3_hasRoom
  have e20 : nI n + (20 : Int32) = nI (n + 20) := nI_add n 20
  rw [e20]
  by_cases c : n + 20 ≤ 200
  · rw [if_neg (show ¬ (200 : Int32) < nI (n + 20) from nlt (a := 200) c (by decide)), if_pos (show nI (n + 20) ≤ (200 : Int32) from nI_le (b := 200) c (by decide)), bind_s, if_pos (by decide)]
    unfold shX7_feed_j_113 shX3_length
    rw [fd_m a1 a2 a3 a4 a5 c mt, ap_c a1 (n := n) (by omega), bind_s, bind_s]
    dsimp only
    rw [ap_c a2 (n := n + 4) (by omega), bind_s]
    dsimp only
    rw [ap_c a3 (n := n + 4 + 4) (by omega), bind_s]
    dsimp only
    rw [ap_c a4 (n := n + 4 + 4 + 4) (by omega), bind_s]
    dsimp only
    rw [ap_c a5 (n := n + 4 + 4 + 4 + 4) (by omega), bind_s, bind_s, e20]
    refine ⟨_, _, rfl, rfl, rfl, n + 20, c, rfl, rfl, ?_⟩
    dsimp only
    have b : ∀ (x s : Int32) (i k : Nat), (k = 0 ∨ k = 8 ∨ k = 16 ∨ k = 24) → ((s.toUInt32 &&& Int32.toUInt32 31).toBitVec % 32).toNat = k → (((24 - (8 * (nI i - nI i / 4 * 4))) &&& 31 : Int32).toBitVec.smod 32).toNat = k → bt x s = bm i x := fun x s i k h1 h2 h3 => by_eq x s _ k h1 h2 h3
    have g : ∀ (x : Int32) (i : Nat) (s : Int32) (k : Nat), decide ((k = 0 ∨ k = 8 ∨ k = 16 ∨ k = 24) ∧ ((s.toUInt32 &&& Int32.toUInt32 31).toBitVec % 32).toNat = k ∧ (((24 - (8 * (nI i - nI i / 4 * 4))) &&& 31 : Int32).toBitVec.smod 32).toNat = k) = true → bt x s = bm i x := fun x i s k h => b x s i k (of_decide_eq_true h).1 (of_decide_eq_true h).2.1 (of_decide_eq_true h).2.2
    have q0 := ag_upd hj (g a1 0 24 24 (by decide))
    have q1 := ag_upd q0 (g a1 1 16 16 (by decide))
    have q2 := ag_upd q1 (g a1 2 8 8 (by decide))
    have q3 := ag_upd q2 (g a1 3 0 0 (by decide))
    have q4 := ag_upd q3 (g a2 4 24 24 (by decide))
    have q5 := ag_upd q4 (g a2 5 16 16 (by decide))
    have q6 := ag_upd q5 (g a2 6 8 8 (by decide))
    have q7 := ag_upd q6 (g a2 7 0 0 (by decide))
    have q8 := ag_upd q7 (g a3 8 24 24 (by decide))
    have q9 := ag_upd q8 (g a3 9 16 16 (by decide))
    have q10 := ag_upd q9 (g a3 10 8 8 (by decide))
    have q11 := ag_upd q10 (g a3 11 0 0 (by decide))
    have q12 := ag_upd q11 (g a4 12 24 24 (by decide))
    have q13 := ag_upd q12 (g a4 13 16 16 (by decide))
    have q14 := ag_upd q13 (g a4 14 8 8 (by decide))
    have q15 := ag_upd q14 (g a4 15 0 0 (by decide))
    have q16 := ag_upd q15 (g a5 16 24 24 (by decide))
    have q17 := ag_upd q16 (g a5 17 16 16 (by decide))
    have q18 := ag_upd q17 (g a5 18 8 8 (by decide))
    exact ag_upd q18 (g a5 19 0 0 (by decide))
  · rw [if_pos (show (200 : Int32) < nI (n + 20) from nI_lt (a := 200) (by omega) (by omega)), if_neg (show ¬ nI (n + 20) ≤ (200 : Int32) from nI_ge (a := 200) (by omega) (by omega)), bind_s, if_neg (by decide)]
    exact ⟨_, _, rfl, rfl, rfl, h0⟩
