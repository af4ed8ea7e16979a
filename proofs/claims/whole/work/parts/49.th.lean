/-! plan: hopes, and who is admitted -/
theorem hp_ex {rs : Int32} {rp rc rw' rb rpi : Nat → Int32} {mr : Int32} {mp mpi mpipe mmet mch : Nat → Int32} {mall : Int32} (hK : IK rs rp rc rw' rb rpi mr mp mpi mpipe mmet mch mall) {n nr : Nat} (hn : n ≤ 7) (ers : rs = nI nr) (hnr : nr ≤ 4) {vr xr : Nat → Int32} (hv : ∀ v, 1 ≤ v → v ≤ n → vr v = xr v ∧ ∃ r : Nat, r < nr ∧ vr v = nI r) :
    ∃ h : Nat → Nat → Nat, (∀ v d, h v d < 1048576) ∧ ∀ v d, 1 ≤ v → v ≤ n → 1 ≤ d → d ≤ 4 → shX2_hopeOn (vr v) (nI d) rp rc rw' rb = some (nI (h v d)) ∧ ∀ w, ∃ w', shX7_hopeOf (nI v) (nI d) mp mpi mpipe mmet mch xr w = some (nI (h v d), w') := by
  have ex : ∀ z : Nat × Nat, ∃ h : Nat, h < 1048576 ∧ (1 ≤ z.1 → z.1 ≤ n → 1 ≤ z.2 → z.2 ≤ 4 → shX2_hopeOn (vr z.1) (nI z.2) rp rc rw' rb = some (nI h) ∧ ∀ w, ∃ w', shX7_hopeOf (nI z.1) (nI z.2) mp mpi mpipe mmet mch xr w = some (nI h, w')) := fun ⟨v, d⟩ => by
    by_cases c : (1 ≤ v ∧ v ≤ n) ∧ (1 ≤ d ∧ d ≤ 4)
    · obtain ⟨⟨c1, c2⟩, c3, c4⟩ := c
      obtain ⟨b1, r, hr, b2⟩ := hv v c1 c2
      obtain ⟨h, hh, e1, e2⟩ := pu_hopeOn hK ers hnr hr c3 c4
      exact ⟨h, hh, fun _ _ _ _ => ⟨by dsimp only; rw [b2]; exact e1, fun w => e2 v w xr (by omega) (b1.symm.trans b2)⟩⟩
    · exact ⟨0, by decide, fun g1 g2 g3 g4 => absurd ⟨⟨g1, g2⟩, g3, g4⟩ c⟩
  obtain ⟨f, hf⟩ := Classical.axiomOfChoice ex
  exact ⟨fun v d => f (v, d), fun v d => (hf (v, d)).1, fun v d => (hf (v, d)).2⟩
theorem hp_0 {rs : Int32} {rp rc rw' rb rpi : Nat → Int32} {mr : Int32} {mp mpi mpipe mmet mch : Nat → Int32} {mall : Int32} (hK : IK rs rp rc rw' rb rpi mr mp mpi mpipe mmet mch mall) {nr r v : Nat} (ers : rs = nI nr) (hnr : nr ≤ 4) (hr : r < nr) {xr : Nat → Int32} (hv : v < 8) (hxr : xr v = nI r) (w : Nat → Int64) : ∃ o, shX7_hopeOf (nI v) (nI 0) mp mpi mpipe mmet mch xr w = some o := by
  obtain ⟨Wq, C, hb, w1, w2, w3, hC⟩ := pu_weights hK ers hnr hr
  unfold shX7_hopeOf
  rw [gd_nI (k := v) hv (by decide), cl (n := v) (by omega), hxr, w3 w, bind_s, bind_s]
  split
  · exact ⟨_, rfl⟩
  · rw [if_neg (not_not_intro (show nI 0 = 0 from rfl))]; exact ⟨_, rfl⟩
theorem rh_1 {mp mpi mpipe mmet mch xr : Nat → Int32} {v : Nat} {h : Nat → Nat} (hv : v < 8) (h0 : ∀ w, ∃ o, shX7_hopeOf (nI v) (nI 0) mp mpi mpipe mmet mch xr w = some o) (hh : ∀ d, 1 ≤ d → d ≤ 4 → ∀ w, ∃ w', shX7_hopeOf (nI v) (nI d) mp mpi mpipe mmet mch xr w = some (nI (h d), w')) (w : Nat → Int64) (ho : Nat → Int32) :
    ∃ r : (Nat → Int64) × (Nat → Int32), lp (fun s : Int32 × (Nat → Int64) × (Nat → Int32) => shX7_plan_L46 mp mpi mpipe mmet mch xr (nI v) s.1 s.2.1 s.2.2) (0, w, ho) = some r ∧ (∀ d, 1 ≤ d → d ≤ 4 → r.2 (5 * v + d) = nI (h d)) ∧ (∀ j, j < 5 * v → r.2 j = ho j) := by
  refine lp_inv (f := fun s : Int32 × (Nat → Int64) × (Nat → Int32) => shX7_plan_L46 mp mpi mpipe mmet mch xr (nI v) s.1 s.2.1 s.2.2) (fun i s => s.1 = nI i ∧ (∀ d, 1 ≤ d → d < i → s.2.2 (5 * v + d) = nI (h d)) ∧ (∀ j, j < 5 * v → s.2.2 j = ho j)) (fun r => (∀ d, 1 ≤ d → d ≤ 4 → r.2 (5 * v + d) = nI (h d)) ∧ (∀ j, j < 5 * v → r.2 j = ho j)) 5 0 (0, w, ho) ⟨rfl, fun d h1 h2 => by omega, fun _ _ => rfl⟩ (fun i s _ hi ⟨h1, h2, h3⟩ => ?_) (fun s ⟨h1, h2, h3⟩ => ?_)
  · obtain ⟨x, w, ro⟩ := s
    dsimp only at h1 h2 h3
    subst h1
    have e1 : ((5 : Int32) * nI v) + nI i = nI (5 * v + i) := by rw [show (5 : Int32) = nI 5 from rfl, pk_mul, nI_add]
    obtain ⟨o, o1, o2⟩ : ∃ o, shX7_hopeOf (nI v) (nI i) mp mpi mpipe mmet mch xr w = some o ∧ (1 ≤ i → o.1 = nI (h i)) := by
      by_cases c : i = 0
      · subst c
        obtain ⟨o, ho⟩ := h0 w
        exact ⟨o, ho, fun g => absurd g (by decide)⟩
      · obtain ⟨w', hw⟩ := hh i (by omega) (by omega) w
        exact ⟨_, hw, fun _ => rfl⟩
    refine ⟨(nI (i + 1), o.2, upd ro (5 * v + i) o.1), ?_, rfl, fun d d1 d2 => ?_, fun j hj => ?_⟩
    · show shX7_plan_L46 mp mpi mpipe mmet mch xr (nI v) (nI i) w ro = _
      unfold shX7_plan_L46
      rw [if_neg (show ¬ (5 : Int32) ≤ nI i from nI_ge (b := 5) (by omega) (by decide)), o1, bind_s, e1, gd_nI (k := 5 * v + i) (by omega) (by decide), cl (n := 5 * v + i) (by omega), bind_s, nI_1]
    · dsimp only
      by_cases c : d = i
      · subst c; rw [upd_s]; exact o2 d1
      · rw [upd_n (by omega)]; exact h2 d d1 (by omega)
    · dsimp only
      rw [upd_n (by omega)]; exact h3 j hj
  · obtain ⟨x, w, ro⟩ := s
    dsimp only at h1 h2 h3
    subst h1
    refine ⟨(w, ro), ?_, fun d d1 d2 => h2 d d1 (by omega), h3⟩
    show shX7_plan_L46 mp mpi mpipe mmet mch xr (nI v) (nI (0 + 5)) w ro = _
    unfold shX7_plan_L46
    rw [if_pos (by decide)]
theorem rh_c {mp mpi mpipe mmet mch xr : Nat → Int32} {n : Nat} {h : Nat → Nat → Nat} (hn : n ≤ 7) (h0 : ∀ v, 1 ≤ v → v ≤ n → ∀ w, ∃ o, shX7_hopeOf (nI v) (nI 0) mp mpi mpipe mmet mch xr w = some o) (hh : ∀ v d, 1 ≤ v → v ≤ n → 1 ≤ d → d ≤ 4 → ∀ w, ∃ w', shX7_hopeOf (nI v) (nI d) mp mpi mpipe mmet mch xr w = some (nI (h v d), w')) (w : Nat → Int64) (ho : Nat → Int32) :
    ∃ r : (Nat → Int64) × (Nat → Int32), lp (fun s : Int32 × (Nat → Int64) × (Nat → Int32) => shX7_plan_L35 (nI n) mp mpi mpipe mmet mch xr s.1 s.2.1 s.2.2) (1, w, ho) = some r ∧ (∀ v d, 1 ≤ v → v ≤ n → 1 ≤ d → d ≤ 4 → r.2 (5 * v + d) = nI (h v d)) := by
  refine lp_inv (f := fun s : Int32 × (Nat → Int64) × (Nat → Int32) => shX7_plan_L35 (nI n) mp mpi mpipe mmet mch xr s.1 s.2.1 s.2.2) (fun i s => s.1 = nI i ∧ (∀ v d, 1 ≤ v → v < i → 1 ≤ d → d ≤ 4 → s.2.2 (5 * v + d) = nI (h v d))) (fun r => ∀ v d, 1 ≤ v → v ≤ n → 1 ≤ d → d ≤ 4 → r.2 (5 * v + d) = nI (h v d)) n 1 (1, w, ho) ⟨rfl, fun v d h1 h2 => by omega⟩ (fun i s hi1 hi ⟨h1, h2⟩ => ?_) (fun s ⟨h1, h2⟩ => ?_)
  · obtain ⟨x, w, ro⟩ := s
    dsimp only at h1 h2
    subst h1
    obtain ⟨r, r1, r2, r3⟩ := rh_1 (v := i) (h := h i) (by omega) (h0 i hi1 (by omega)) (fun d d1 d2 => hh i d hi1 (by omega) d1 d2) w ro
    refine ⟨(nI (i + 1), r.1, r.2), ?_, rfl, fun v d v1 v2 d1 d2 => ?_⟩
    · show shX7_plan_L35 (nI n) mp mpi mpipe mmet mch xr (nI i) w ro = _
      unfold shX7_plan_L35 shX7_plan_k35_76
      rw [if_neg (nlt (a := n) (b := i) (by omega) (by omega)), r1, bind_s, nI_1]
    · dsimp only
      by_cases c : v = i
      · subst c; exact r2 d d1 d2
      · rw [r3 _ (by omega)]; exact h2 v d v1 (by omega) d1 d2
  · obtain ⟨x, w, ro⟩ := s
    dsimp only at h1 h2
    subst h1
    refine ⟨(w, ro), ?_, fun v d v1 v2 => h2 v d v1 (by omega)⟩
    show shX7_plan_L35 (nI n) mp mpi mpipe mmet mch xr (nI (1 + n)) w ro = _
    unfold shX7_plan_L35
    rw [if_pos (nI_lt (by omega) (by omega))]
theorem bi12 : ∀ i, i < 7 → ∀ S, S < 2 ^ i → ∀ u, u < 7 → tb (S + 2 ^ i) (u + 1) = (tb S (u + 1) || decide (u = i)) := by decide +kernel
theorem bi13 : ∀ i, i < 7 → ∀ S, S < 2 ^ i → pc (S + 2 ^ i) = pc S + 1 := by decide +kernel
theorem pw7 {n : Nat} (h : n ≤ 7) : 2 ^ n ≤ 128 := Nat.pow_le_pow_right (by decide) h
theorem ps2 (i : Nat) : 2 ^ (i + 1) = 2 ^ i + 2 ^ i := by rw [Nat.pow_succ]; omega
theorem st_d {v : Nat} (hv : v < 8) (dry : Int32) (vb vw : Nat → Int32) : ∃ o, shX4_state (nI v) dry vb vw = some o ∧ (o = 0 ↔ vw v = -1 ∧ vb v < dry) := by
  unfold shX4_state shX4_hasWell
  rw [gd_nI (k := v) hv (by decide), cl (n := v) (by omega)]
  simp only [bind_s]
  by_cases c : vw v = -1
  · rw [if_pos c, bind_s, i00]
    by_cases c2 : vb v < dry
    · rw [if_pos c2]; exact ⟨_, rfl, fun _ => ⟨c, c2⟩, fun _ => rfl⟩
    · rw [if_neg c2]; exact ⟨_, rfl, fun h => absurd h (by decide), fun h => absurd h.2 c2⟩
  · rw [if_neg c, bind_s, i10]; exact ⟨_, rfl, fun h => absurd h (by decide), fun h => absurd h.1 c⟩
theorem ad_1 {vr vp rp rc rw' rb : Nat → Int32} {v pe : Nat} {h : Nat → Nat} (hv : v < 8) (hp : vp v = nI pe) (hpe : pe ≤ 9999) (hb : ∀ d, h d < 1048576) (hh : ∀ d, 1 ≤ d → d ≤ 4 → shX2_hopeOn (vr v) (nI d) rp rc rw' rb = some (nI (h d))) (ga : Nat → Int64) :
    ∃ ga', lp (fun s : Int32 × (Nat → Int64) => shX1_admit_L44 vr vp rp rc rw' rb (nI v) s.1 s.2) (1, ga) = some ga' ∧ (∀ d, 1 ≤ d → d ≤ 4 → ga' (5 * v + d) = lN (pe * h d)) ∧ (∀ j, j < 5 * v → ga' j = ga j) := by
  refine lp_inv (f := fun s : Int32 × (Nat → Int64) => shX1_admit_L44 vr vp rp rc rw' rb (nI v) s.1 s.2) (fun i s => s.1 = nI i ∧ (∀ d, 1 ≤ d → d < i → s.2 (5 * v + d) = lN (pe * h d)) ∧ (∀ j, j < 5 * v → s.2 j = ga j)) (fun r => (∀ d, 1 ≤ d → d ≤ 4 → r (5 * v + d) = lN (pe * h d)) ∧ (∀ j, j < 5 * v → r j = ga j)) 4 1 (1, ga) ⟨rfl, fun d h1 h2 => by omega, fun _ _ => rfl⟩ (fun i s hi1 hi ⟨h1, h2, h3⟩ => ?_) (fun s ⟨h1, h2, h3⟩ => ?_)
  · obtain ⟨x, ro⟩ := s
    dsimp only at h1 h2 h3
    subst h1
    have e1 : (nI v * (5 : Int32)) + nI i = nI (5 * v + i) := by rw [show (5 : Int32) = nI 5 from rfl, pk_mul, nI_add, Nat.mul_comm]
    have hbi := hb i
    refine ⟨(nI (i + 1), vp_updL ro (5 * v + i) (lN (pe * h i))), ?_, rfl, fun d d1 d2 => ?_, fun j hj => ?_⟩
    · show shX1_admit_L44 vr vp rp rc rw' rb (nI v) (nI i) ro = _
      unfold shX1_admit_L44 shX4_rockOf shX4_peopleOf
      rw [if_neg (show ¬ (4 : Int32) < nI i from nlt (a := 4) (by omega) (by decide)), gd_nI (k := v) hv (by decide), cl (n := v) (by omega)]
      simp only [bind_s]
      rw [hh i hi1 (by omega), bind_s, e1, gd_nI (k := 5 * v + i) (by omega) (by decide), cl (n := 5 * v + i) (by omega), bind_s, nI_1, hp, nI_l (by omega), nI_l (by omega), lN_mul]
    · dsimp only
      by_cases c : d = i
      · subst c; rw [pk_uLs]
      · rw [pk_uLn (by omega)]; exact h2 d d1 (by omega)
    · dsimp only
      rw [pk_uLn (by omega)]; exact h3 j hj
  · obtain ⟨x, ro⟩ := s
    dsimp only at h1 h2 h3
    subst h1
    refine ⟨ro, ?_, fun d d1 d2 => h2 d d1 (by omega), h3⟩
    show shX1_admit_L44 vr vp rp rc rw' rb (nI v) (nI (1 + 4)) ro = _
    unfold shX1_admit_L44
    rw [if_pos (by decide)]
theorem ad_c {vr vp vb vw rp rc rw' rb : Nat → Int32} {dry : Int32} {n : Nat} {pe : Nat → Nat} {h : Nat → Nat → Nat} (hn : n ≤ 7) (hp : ∀ v, 1 ≤ v → v ≤ n → vp v = nI (pe v) ∧ pe v ≤ 9999) (hb : ∀ v d, h v d < 1048576) (hh : ∀ v d, 1 ≤ v → v ≤ n → 1 ≤ d → d ≤ 4 → shX2_hopeOn (vr v) (nI d) rp rc rw' rb = some (nI (h v d))) (ad : Int32) (ga : Nat → Int64) :
    ∃ A ga', shX1_admit dry ad ga (nI n) vr vp vb vw rp rc rw' rb = some (nI A, ga') ∧ A < 128 ∧ (∀ v, 1 ≤ v → v ≤ 7 → (tb A v = true ↔ v ≤ n ∧ vw v = -1 ∧ vb v < dry)) ∧ (∀ v d, 1 ≤ v → v ≤ 7 → tb A v = true → 1 ≤ d → d ≤ 4 → ga' (5 * v + d) = lN (pe v * h v d)) := by
  have key := lp_inv (f := fun s : Int32 × Int32 × (Nat → Int64) => shX1_admit_L8 dry (nI n) vr vp vb vw rp rc rw' rb s.1 s.2.1 s.2.2) (fun i s => s.1 = nI (i + 1) ∧ ∃ A, A < 2 ^ i ∧ s.2.1 = nI A ∧ (∀ u, u < 7 → (tb A (u + 1) = true ↔ u < i ∧ vw (u + 1) = -1 ∧ vb (u + 1) < dry)) ∧ (∀ u d, u < i → tb A (u + 1) = true → 1 ≤ d → d ≤ 4 → s.2.2 (5 * (u + 1) + d) = lN (pe (u + 1) * h (u + 1) d))) (fun r => ∃ A, A < 128 ∧ r.1 = nI A ∧ (∀ u, u < 7 → (tb A (u + 1) = true ↔ u < n ∧ vw (u + 1) = -1 ∧ vb (u + 1) < dry)) ∧ (∀ u d, u < n → tb A (u + 1) = true → 1 ≤ d → d ≤ 4 → r.2 (5 * (u + 1) + d) = lN (pe (u + 1) * h (u + 1) d))) n 0 (1, 0, ga) ⟨rfl, 0, by decide, rfl, fun u hu => ⟨fun g => by unfold tb at g; rw [Nat.zero_testBit] at g; exact absurd g (by decide), fun g => absurd g.1 (Nat.not_lt_zero _)⟩, fun u d h => absurd h (Nat.not_lt_zero _)⟩ (fun i s _ hi ⟨h1, A, a1, a2, a3, a4⟩ => by
    obtain ⟨x, y, g⟩ := s
    dsimp only at h1 a2 a4
    subst h1 a2
    have hi7 : i < 7 := by omega
    obtain ⟨o, o1, o2⟩ := st_d (v := i + 1) (by omega) dry vb vw
    by_cases c : o = 0
    · obtain ⟨g', g1, g2, g3⟩ := ad_1 (v := i + 1) (pe := pe (i + 1)) (h := h (i + 1)) (by omega) (hp (i + 1) (by omega) (by omega)).1 (hp (i + 1) (by omega) (by omega)).2 (hb (i + 1)) (fun d d1 d2 => hh (i + 1) d (by omega) (by omega) d1 d2) g
      have htA : ∀ u, u < 7 → tb (A + 2 ^ i) (u + 1) = (tb A (u + 1) || decide (u = i)) := bi12 i hi7 A a1
      refine ⟨(nI (i + 1 + 1), nI (A + 2 ^ i), g'), ?_, rfl, A + 2 ^ i, by rw [ps2]; omega, rfl, fun u hu => ?_, fun u d hu ht d1 d2 => ?_⟩
      · show shX1_admit_L8 dry (nI n) vr vp vb vw rp rc rw' rb (nI (i + 1)) (nI A) g = _
        unfold shX1_admit_L8 shX4_size shX1_bit shX1_admit_k8_93
        rw [bind_s, if_neg (nlt (a := n) (b := i + 1) (by omega) (by omega)), o1, bind_s, if_neg (not_not_intro c), bind_s, g1, bind_s, bi5 i hi7 A a1, nI_1]
      · rw [htA u hu]
        by_cases e : u = i
        · subst e
          simp only [decide_true, Bool.or_true, true_iff]
          exact ⟨by omega, o2.mp c⟩
        · simp only [e, decide_false, Bool.or_false]
          rw [a3 u hu]
          exact ⟨fun ⟨q1, q2⟩ => ⟨by omega, q2⟩, fun ⟨q1, q2⟩ => ⟨by omega, q2⟩⟩
      · dsimp only
        by_cases e : u = i
        · subst e; exact g2 d d1 d2
        · rw [g3 _ (by omega)]
          rw [htA u (by omega)] at ht
          simp only [e, decide_false, Bool.or_false] at ht
          exact a4 u d (by omega) ht d1 d2
    · refine ⟨(nI (i + 1 + 1), nI A, g), ?_, rfl, A, by rw [ps2]; omega, rfl, fun u hu => ?_, fun u d hu ht d1 d2 => ?_⟩
      · show shX1_admit_L8 dry (nI n) vr vp vb vw rp rc rw' rb (nI (i + 1)) (nI A) g = _
        unfold shX1_admit_L8 shX4_size shX1_admit_k8_93
        rw [bind_s, if_neg (nlt (a := n) (b := i + 1) (by omega) (by omega)), o1, bind_s, if_pos c, nI_1]
      · rw [a3 u hu]
        by_cases e : u = i
        · subst e
          exact ⟨fun q => absurd q.1 (Nat.lt_irrefl _), fun q => absurd (o2.mpr q.2) c⟩
        · exact ⟨fun ⟨q1, q2⟩ => ⟨by omega, q2⟩, fun ⟨q1, q2⟩ => ⟨by omega, q2⟩⟩
      · dsimp only
        by_cases e : u = i
        · subst e; exact absurd ((a3 u (by omega)).mp ht).1 (Nat.lt_irrefl _)
        · exact a4 u d (by omega) ht d1 d2) (fun s ⟨h1, A, a1, a2, a3, a4⟩ => by
    obtain ⟨x, y, g⟩ := s
    dsimp only at h1 a2 a4
    subst h1 a2
    rw [Nat.zero_add] at a1 a3 a4
    refine ⟨(nI A, g), ?_, A, by have := pw7 hn; omega, rfl, a3, a4⟩
    show shX1_admit_L8 dry (nI n) vr vp vb vw rp rc rw' rb (nI (0 + n + 1)) (nI A) g = _
    unfold shX1_admit_L8 shX4_size
    rw [bind_s, if_pos (nI_lt (by omega) (by omega))])
  obtain ⟨⟨r1, r2⟩, k1, A, k2, k3, k4, k5⟩ := key
  dsimp only at k3 k5
  subst k3
  refine ⟨A, r2, ?_, k2, fun v h1 h2 => ?_, fun v d h1 h2 ht d1 d2 => ?_⟩
  · unfold shX1_admit shX1_admit_j_99
    rw [k1, bind_s]
  · have := k4 (v - 1) (by omega)
    rw [show v - 1 + 1 = v by omega] at this
    rw [this]
    exact ⟨fun ⟨q1, q2⟩ => ⟨by omega, q2⟩, fun ⟨q1, q2⟩ => ⟨by omega, q2⟩⟩
  · have hv : v - 1 < n := ((k4 (v - 1) (by omega)).mp (by rw [show v - 1 + 1 = v by omega]; exact ht)).1
    have := k5 (v - 1) d hv (by rw [show v - 1 + 1 = v by omega]; exact ht) d1 d2
    rw [show v - 1 + 1 = v by omega] at this
    exact this
