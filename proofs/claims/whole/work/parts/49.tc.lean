/-! plan: all sets' ways -/
theorem mw_row {wd mw : Nat → Int32} (hY : IY wd mw) {n p : Nat} (hn : n ≤ 7) (hp : p ≤ n) (st0 : Nat → Int32) : ∃ st', lp (fun s : Int32 × (Nat → Int32) => shX1_measureWays_L10 (nI n) wd (nI p) s.1 s.2) (0, st0) = some st' ∧ (∀ v, v ≤ n → st' (8 * p + v) = nI (stp wd p v)) ∧ (∀ j, j < 8 * p → st' j = st0 j) := by
  refine lp_inv (f := fun s : Int32 × (Nat → Int32) => shX1_measureWays_L10 (nI n) wd (nI p) s.1 s.2) (fun i s => s.1 = nI i ∧ (∀ v, v < i → s.2 (8 * p + v) = nI (stp wd p v)) ∧ (∀ j, j < 8 * p → s.2 j = st0 j)) (fun r => (∀ v, v ≤ n → r (8 * p + v) = nI (stp wd p v)) ∧ (∀ j, j < 8 * p → r j = st0 j)) (n + 1) 0 (0, st0) ⟨rfl, fun p h => absurd h (Nat.not_lt_zero _), fun _ _ => rfl⟩ (fun i s _ hi ⟨h1, h2, h3⟩ => ?_) (fun s ⟨h1, h2, h3⟩ => ?_)
  · obtain ⟨x, ro⟩ := s
    dsimp only at h1 h2 h3
    subst h1
    have e1 : (nI p * (8 : Int32)) + nI i = nI (8 * p + i) := by rw [show (8 : Int32) = nI 8 from rfl, pk_mul, nI_add, Nat.mul_comm]
    refine ⟨(nI (i + 1), upd ro (8 * p + i) (nI (stp wd p i))), ?_, rfl, fun v hv => ?_, fun j hj => ?_⟩
    · show shX1_measureWays_L10 (nI n) wd (nI p) (nI i) ro = _
      unfold shX1_measureWays_L10
      rw [if_neg (nlt (a := n) (b := i) (by omega) (by omega)), sd_c hY (by omega) (by omega), bind_s, e1, gd_nI (k := 8 * p + i) (by omega) (by decide), cl (by omega), bind_s, nI_1]
    · dsimp only
      by_cases c : v = i
      · rw [c, upd_s]
      · rw [upd_n (by omega)]; exact h2 v (by omega)
    · dsimp only
      rw [upd_n (by omega)]; exact h3 j hj
  · obtain ⟨x, ro⟩ := s
    dsimp only at h1 h2 h3
    subst h1
    refine ⟨ro, ?_, fun v hv => h2 v (by omega), h3⟩
    show shX1_measureWays_L10 (nI n) wd (nI p) (nI (0 + (n + 1))) ro = _
    unfold shX1_measureWays_L10
    rw [if_pos (nI_lt (by omega) (by omega))]
theorem mw_c {wd mw : Nat → Int32} (hY : IY wd mw) {n A : Nat} (hn : n ≤ 7) (hA : A < 128) (hAn : ∀ v, 1 ≤ v → v ≤ 7 → tb A v = true → v ≤ n) (ro0 st0 : Nat → Int32) : ∃ ro st, shX1_measureWays (nI n) (nI A) ro0 st0 wd = some (ro, st) ∧ (∀ p, p ≤ n → ∀ v, v ≤ n → st (8 * p + v) = nI (stp wd p v)) ∧ (∀ S, S ≤ A → sub S A = true → ∀ p, p ≤ n → ro (8 * S + p) = nI (rS (stp wd) n S p)) := by
  have k1 := lp_inv (f := fun s : Int32 × (Nat → Int32) × (Nat → Int32) => shX1_measureWays_L2 (nI n) wd s.1 s.2.1 s.2.2) (fun i s => s.1 = nI i ∧ (∀ p, p < i → s.2.1 p = 0) ∧ (∀ p, p < i → ∀ v, v ≤ n → s.2.2 (8 * p + v) = nI (stp wd p v))) (fun r => (∀ p, p ≤ n → r.1 p = 0) ∧ (∀ p, p ≤ n → ∀ v, v ≤ n → r.2 (8 * p + v) = nI (stp wd p v))) (n + 1) 0 (0, ro0, st0) ⟨rfl, fun p h => absurd h (Nat.not_lt_zero _), fun p h => absurd h (Nat.not_lt_zero _)⟩ (fun i s _ hi ⟨h1, h2, h3⟩ => by
    obtain ⟨x, ro, st⟩ := s
    dsimp only at h1 h2 h3
    subst h1
    obtain ⟨st', m1, m2, m3⟩ := mw_row hY hn (p := i) (by omega) st
    refine ⟨(nI (i + 1), upd ro i 0, st'), ?_, rfl, fun p hp => ?_, fun p hp v hv => ?_⟩
    · show shX1_measureWays_L2 (nI n) wd (nI i) ro st = _
      unfold shX1_measureWays_L2 shX1_measureWays_k2_41
      rw [if_neg (nlt (a := n) (b := i) (by omega) (by omega)), m1, bind_s, gd_nI (k := i) (by omega) (by decide), cl (by omega), bind_s, nI_1]
    · dsimp only
      by_cases c : p = i
      · rw [c, upd_s]
      · rw [upd_n c]; exact h2 p (by omega)
    · dsimp only
      by_cases c : p = i
      · rw [c]; exact m2 v hv
      · rw [m3 _ (by omega)]; exact h3 p (by omega) v hv) (fun s ⟨h1, h2, h3⟩ => by
    obtain ⟨x, ro, st⟩ := s
    dsimp only at h1 h2 h3
    subst h1
    refine ⟨(ro, st), ?_, fun p hp => h2 p (by omega), fun p hp => h3 p (by omega)⟩
    show shX1_measureWays_L2 (nI n) wd (nI (0 + (n + 1))) ro st = _
    unfold shX1_measureWays_L2
    rw [if_pos (nI_lt (by omega) (by omega))])
  obtain ⟨⟨ro1, st1⟩, q1, q2, q3⟩ := k1
  dsimp only at q2 q3
  have k2 := lp_inv (f := fun s : Int32 × (Nat → Int32) => shX1_measureWays_L56 (nI n) (nI A) st1 s.1 s.2) (fun i s => s.1 = nI i ∧ (∀ S, S < i → sub S A = true → ∀ p, p ≤ n → s.2 (8 * S + p) = nI (rS (stp wd) n S p))) (fun r => ∀ S, S ≤ A → sub S A = true → ∀ p, p ≤ n → r (8 * S + p) = nI (rS (stp wd) n S p)) A 1 (1, ro1) ⟨rfl, fun S h _ p hp => by
      have : S = 0 := by omega
      subst this
      rw [rS_0, show 8 * 0 + p = p by omega]; exact q2 p hp⟩ (fun i s hi1 hi ⟨h1, h2⟩ => by
    obtain ⟨x, ro⟩ := s
    dsimp only at h1 h2
    subst h1
    by_cases c : sub i A = true
    · have hro : ∀ v, 1 ≤ v → v ≤ n → tb i v = true → ro (8 * clr i v + v) = nI (rS (stp wd) n (clr i v) v) := fun v g1 g2 g3 => by
        obtain ⟨u, rfl⟩ : ∃ u, v = u + 1 := ⟨v - 1, by omega⟩
        obtain ⟨b1, b2, b3⟩ := bi7 i (by omega) u (by omega)
        refine h2 _ (b3 g3).1 ?_ _ g2
        refine (bi9 _ b1 A hA).mpr (fun w hw g => ?_)
        rw [bi8 i (by omega) u (by omega) w hw] at g
        exact (bi9 i (by omega) A hA).mp c w hw (by simp at g; exact g.1)
      obtain ⟨ro', m1, m2, m3⟩ := ms_c hY hn (S := i) (by omega) (by omega) q3 ro hro
      refine ⟨(nI (i + 1), ro'), ?_, rfl, fun S hS hsub p hp => ?_⟩
      · show shX1_measureWays_L56 (nI n) (nI A) st1 (nI i) ro = _
        unfold shX1_measureWays_L56 shX1_isAdmitted shX1_measureWays_k56_78
        rw [if_neg (nlt (a := A) (b := i) (by omega) (by omega)), if_neg (not_not_intro ((bi6 i (by omega) A hA).mpr c)), bind_s, i10, m1, bind_s, nI_1]
      · dsimp only
        by_cases e : S = i
        · rw [e]; exact m2 p hp
        · rw [m3 _ (by omega)]; exact h2 S (by omega) hsub p hp
    · refine ⟨(nI (i + 1), ro), ?_, rfl, fun S hS hsub p hp => ?_⟩
      · show shX1_measureWays_L56 (nI n) (nI A) st1 (nI i) ro = _
        unfold shX1_measureWays_L56 shX1_isAdmitted shX1_measureWays_k56_78
        rw [if_neg (nlt (a := A) (b := i) (by omega) (by omega)), if_pos (fun g => c ((bi6 i (by omega) A hA).mp g)), bind_s, i00, nI_1]
      · dsimp only
        by_cases e : S = i
        · rw [e] at hsub; exact absurd hsub c
        · exact h2 S (by omega) hsub p hp) (fun s ⟨h1, h2⟩ => by
    obtain ⟨x, ro⟩ := s
    dsimp only at h1 h2
    subst h1
    refine ⟨ro, ?_, fun S hS => h2 S (by omega)⟩
    show shX1_measureWays_L56 (nI n) (nI A) st1 (nI (1 + A)) ro = _
    unfold shX1_measureWays_L56
    rw [if_pos (nI_lt (by omega) (by omega))])
  obtain ⟨ro2, r1, r2⟩ := k2
  refine ⟨ro2, st1, ?_, q3, r2⟩
  unfold shX1_measureWays shX1_measureWays_j_54 shX1_measureWays_j_84
  rw [q1, bind_s]
  dsimp only
  rw [r1, bind_s]
/-! plan: the greatest worths -/
def MX (A : Nat) (g : Nat → Nat → Nat) (S q m : Nat) : Prop := (∃ x, Vx A x ∧ mk x = S ∧ sm x = q ∧ wsum g x = m) ∧ ∀ y, Vx A y → mk y = S → sm y = q → wsum g y ≤ m
def NX (A S q : Nat) : Prop := ∀ y, Vx A y → mk y = S → sm y ≠ q
def OKw (A : Nat) (g : Nat → Nat → Nat) (wo : Nat → Int64) (S q : Nat) : Prop := (wo (29 * S + q) = -1 ∧ NX A S q) ∨ ∃ m, wo (29 * S + q) = lN m ∧ MX A g S q m
theorem ws_b {g : Nat → Nat → Nat} (hg : ∀ v d, g v d ≤ 10485750000) (x : Nat → Nat) : wsum g x ≤ 73400250000 := by
  unfold wsum sm
  have a1 := hg 1 (x 1); have a2 := hg 2 (x 2); have a3 := hg 3 (x 3); have a4 := hg 4 (x 4); have a5 := hg 5 (x 5); have a6 := hg 6 (x 6); have a7 := hg 7 (x 7)
  dsimp only
  omega
theorem MX_b {A : Nat} {g : Nat → Nat → Nat} (hg : ∀ v d, g v d ≤ 10485750000) {S q m : Nat} (h : MX A g S q m) : m ≤ 73400250000 := by
  obtain ⟨⟨x, -, -, -, rfl⟩, -⟩ := h
  exact ws_b hg x
theorem MX_1 {A : Nat} {g : Nat → Nat → Nat} {S q m m' : Nat} (h : MX A g S q m) (h' : MX A g S q m') : m = m' := by
  obtain ⟨⟨x, x1, x2, x3, rfl⟩, hx⟩ := h
  obtain ⟨⟨y, y1, y2, y3, rfl⟩, hy⟩ := h'
  exact Nat.le_antisymm (hy x x1 x2 x3) (hx y y1 y2 y3)
theorem m1L : (-1 : Int64).toInt = -1 := by decide
theorem lN_m1 {m : Nat} (h : m < 2 ^ 62) : ¬ lN m = -1 := fun g => by
  have := congrArg Int64.toInt g
  rw [pk_lT (by omega), m1L] at this
  omega
theorem m1_lt {m : Nat} (h : m < 2 ^ 62) : (-1 : Int64) < lN m := by
  rw [Int64.lt_iff_toInt_lt, pk_lT (by omega), m1L]; omega
/-- what a vector on S is, off its first village -/
theorem off_v {A S v : Nat} (hS : S < 128) (h1 : 1 ≤ v) (h2 : v ≤ 7) (ht : tb S v = true) {g : Nat → Nat → Nat} (g0 : ∀ v, g v 0 = 0) {y : Nat → Nat} (hy : Vx A y) (hm : mk y = S) : 1 ≤ y v ∧ y v ≤ 4 ∧ Vx A (nupd y v 0) ∧ mk (nupd y v 0) = clr S v ∧ sm (nupd y v 0) + y v = sm y ∧ wsum g (nupd y v 0) + g v (y v) = wsum g y := by
  have hb := mk_tb y h1 h2
  rw [hm, ht] at hb
  have hne : y v ≠ 0 := by simpa using hb.symm
  refine ⟨by omega, Vx_le hy v, Vx_upd hy (by omega) (fun h => absurd rfl h), by rw [mk_clr (A := A) h1 h2, hm], by rw [sm_upd h1 h2, Nat.add_zero], by rw [ws_upd h1 h2, g0, Nat.add_zero]⟩
theorem on_v {A S v d : Nat} (hS : S < 128) (h1 : 1 ≤ v) (h2 : v ≤ 7) (ht : tb S v = true) (hA : tb A v = true) {g : Nat → Nat → Nat} (g0 : ∀ v, g v 0 = 0) {x : Nat → Nat} (hx : Vx A x) (hm : mk x = clr S v) (d1 : 1 ≤ d) (d2 : d ≤ 4) : Vx A (nupd x v d) ∧ mk (nupd x v d) = S ∧ sm (nupd x v d) = sm x + d ∧ wsum g (nupd x v d) = wsum g x + g v d ∧ x v = 0 := by
  have hx0 : x v = 0 := by
    obtain ⟨u, rfl⟩ : ∃ u, v = u + 1 := ⟨v - 1, by omega⟩
    have hb := mk_tb x h1 h2
    rw [hm, bi8 S hS u (by omega) u (by omega)] at hb
    simpa using hb
  have a := sm_upd (x := x) (d := d) h1 h2
  have b := ws_upd (g := g) (x := x) (d := d) h1 h2
  rw [hx0] at a
  rw [hx0, g0] at b
  exact ⟨Vx_upd hx d2 (fun _ => ⟨h1, h2, hA⟩), mk_set hS h1 h2 ht hm (by omega), by omega, by omega, hx0⟩
theorem ww_c {A S v q d : Nat} {g : Nat → Nat → Nat} {ga wo : Nat → Int64} (hS : S < 128) (h2 : v ≤ 7) (hd : d ≤ 4) (hq : q ≤ 28) (hg : ∀ v d, g v d ≤ 10485750000) (hga : ga (5 * v + d) = lN (g v d)) (hO : OKw A g wo S q) : (shX1_worthWith (nI S) (nI q) (nI v) (nI d) ga wo = some (-1) ∧ NX A S q) ∨ ∃ m, MX A g S q m ∧ shX1_worthWith (nI S) (nI q) (nI v) (nI d) ga wo = some (lN (m + g v d)) := by
  have e1 : (nI S * (29 : Int32)) + nI q = nI (29 * S + q) := by rw [show (29 : Int32) = nI 29 from rfl, pk_mul, nI_add, Nat.mul_comm]
  have e2 : (nI v * (5 : Int32)) + nI d = nI (5 * v + d) := by rw [show (5 : Int32) = nI 5 from rfl, pk_mul, nI_add, Nat.mul_comm]
  unfold shX1_worthWith
  rw [e1, e2, gd_nI (k := 29 * S + q) (by omega) (by decide), gd_nI (k := 5 * v + d) (by omega) (by decide), cl (n := 29 * S + q) (by omega), cl (n := 5 * v + d) (by omega), hga]
  simp only [bind_s]
  rcases hO with ⟨h, hn⟩ | ⟨m, h, hm⟩
  · rw [h, if_neg (not_not_intro rfl)]; exact Or.inl ⟨rfl, hn⟩
  · have := MX_b hg hm
    rw [h, if_pos (lN_m1 (by omega)), lN_add]; exact Or.inr ⟨m, hm, rfl⟩
/-- the best of the first depths -/
def GB (A : Nat) (g : Nat → Nat → Nat) (S v q i : Nat) (b : Int64) : Prop := (b = -1 ∧ ∀ d, 1 ≤ d → d < i → NX A S (q - d)) ∨ ∃ m d m', b = lN m ∧ 1 ≤ d ∧ d < i ∧ MX A g S (q - d) m' ∧ m = m' + g v d ∧ ∀ d, 1 ≤ d → d < i → ∀ m', MX A g S (q - d) m' → m' + g v d ≤ m
theorem gr_c {A S v q q0 : Nat} {g : Nat → Nat → Nat} {ga wo : Nat → Int64} (hS : S < 128) (h2 : v ≤ 7) (hq : q ≤ q0) (hq0 : q0 ≤ 28) (hg : ∀ v d, g v d ≤ 10485750000) (hga : ∀ d, 1 ≤ d → d ≤ 4 → ga (5 * v + d) = lN (g v d)) (hO : ∀ q, q ≤ q0 → OKw A g wo S q) : ∃ b, shX1_greatest (nI S) (nI q) (nI v) ga wo = some b ∧ GB A g S v q (Nat.min 4 q + 1) b := by
  have hmin : Nat.min 4 q ≤ 4 ∧ Nat.min 4 q ≤ q ∧ (Nat.min 4 q = 4 ∨ Nat.min 4 q = q) := by
    have : Nat.min 4 q = min 4 q := rfl
    rw [this]; omega
  generalize Nat.min 4 q = K at *
  have key := lp_inv (f := fun s : Int64 × Int32 => shX1_greatest_L8 (nI S) (nI q) (nI v) ga wo s.1 s.2) (fun i s => s.2 = nI i ∧ GB A g S v q i s.1) (fun r => GB A g S v q (K + 1) r) K 1 ((-1 : Int64), 1) ⟨rfl, Or.inl ⟨rfl, fun d g1 g2 => by omega⟩⟩ (fun i s hi1 hi ⟨h1, hb⟩ => by
    obtain ⟨b, x⟩ := s
    dsimp only at h1 hb
    subst h1
    have hw := ww_c (A := A) (S := S) (v := v) (q := q - i) (d := i) (g := g) (ga := ga) (wo := wo) hS h2 (by omega) (by omega) hg (hga i hi1 (by omega)) (hO _ (by omega))
    have body : ∀ o, shX1_worthWith (nI S) (nI (q - i)) (nI v) (nI i) ga wo = some o → shX1_greatest_L8 (nI S) (nI q) (nI v) ga wo b (nI i) = some (.inl ((if o < b then b else o), nI (i + 1))) := fun o ho => by
      unfold shX1_greatest_L8
      rw [if_neg (show ¬ (4 : Int32) < nI i from nlt (a := 4) (by omega) (by decide)), if_neg (nlt (a := q) (b := i) (by omega) (by omega)), pk_sub (by omega), ho, bind_s, nI_1]
    rcases hw with ⟨w1, w2⟩ | ⟨m1, w2, w1⟩
    · refine ⟨_, body _ w1, rfl, ?_⟩
      dsimp only
      rcases hb with ⟨rfl, hb⟩ | ⟨m, d, m', rfl, d1, d2, hM, hm, hall⟩
      · rw [if_neg (Int64.lt_irrefl)]
        refine Or.inl ⟨rfl, fun d g1 g2 => ?_⟩
        by_cases e : d = i
        · rw [e]; exact w2
        · exact hb d g1 (by omega)
      · have hmb := MX_b hg hM
        have hgb := hg v d
        rw [if_pos (m1_lt (by omega))]
        refine Or.inr ⟨m, d, m', rfl, d1, by omega, hM, hm, fun d g1 g2 m9 h9 => ?_⟩
        by_cases e : d = i
        · rw [e] at h9
          obtain ⟨⟨y, y1, y2, y3, -⟩, -⟩ := h9
          exact absurd y3 (w2 y y1 y2)
        · exact hall d g1 (by omega) m9 h9
    · refine ⟨_, body _ w1, rfl, ?_⟩
      dsimp only
      have hm1 := MX_b hg w2
      have hg1 := hg v i
      rcases hb with ⟨rfl, hb⟩ | ⟨m, d, m', rfl, d1, d2, hM, hm, hall⟩
      · rw [if_neg (fun h => by
          have := m1_lt (m := m1 + g v i) (by omega)
          exact absurd (Int64.lt_trans h this) Int64.lt_irrefl)]
        refine Or.inr ⟨m1 + g v i, i, m1, rfl, hi1, by omega, w2, rfl, fun d g1 g2 m9 h9 => ?_⟩
        by_cases e : d = i
        · rw [e] at h9 ⊢; rw [MX_1 h9 w2]; exact Nat.le_refl _
        · obtain ⟨⟨y, y1, y2, y3, -⟩, -⟩ := h9
          exact absurd y3 (hb d g1 (by omega) y y1 y2)
      · have hmb := MX_b hg hM
        have hgb := hg v d
        by_cases c : m1 + g v i < m
        · rw [if_pos ((pk_lLT (by omega) (by omega)).mpr c)]
          refine Or.inr ⟨m, d, m', rfl, d1, by omega, hM, hm, fun d g1 g2 m9 h9 => ?_⟩
          by_cases e : d = i
          · rw [e] at h9 ⊢; rw [MX_1 h9 w2]; omega
          · exact hall d g1 (by omega) m9 h9
        · rw [if_neg (fun h => c ((pk_lLT (by omega) (by omega)).mp h))]
          refine Or.inr ⟨m1 + g v i, i, m1, rfl, hi1, by omega, w2, rfl, fun d g1 g2 m9 h9 => ?_⟩
          by_cases e : d = i
          · rw [e] at h9 ⊢; rw [MX_1 h9 w2]; exact Nat.le_refl _
          · have := hall d g1 (by omega) m9 h9; omega) (fun s ⟨h1, hb⟩ => by
    obtain ⟨b, x⟩ := s
    dsimp only at h1 hb
    subst h1
    rw [Nat.add_comm] at hb
    refine ⟨b, ?_, hb⟩
    show shX1_greatest_L8 (nI S) (nI q) (nI v) ga wo b (nI (1 + K)) = _
    unfold shX1_greatest_L8
    by_cases c : K = 4
    · rw [if_pos (show (4 : Int32) < nI (1 + K) from nI_lt (a := 4) (by omega) (by omega))]
    · rw [if_neg (show ¬ (4 : Int32) < nI (1 + K) from nlt (a := 4) (by omega) (by decide)), if_pos (nI_lt (by omega) (by omega))])
  obtain ⟨r, k1, k2⟩ := key
  refine ⟨r, ?_, k2⟩
  unfold shX1_greatest shX1_greatest_j_45
  rw [k1, bind_s]
