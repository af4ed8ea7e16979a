/-! plan: the reference's depths in turn -/
def WT (dry : Int32) (mb mw : Nat → Int32) (n A : Nat) : Prop := ∀ v, 1 ≤ v → v ≤ n → ∃ o, shX7_isWanted (nI v) dry mb mw = some o ∧ (¬ o = 0 ↔ tb A v = true)
theorem od_1 {n A : Nat} (hn : n ≤ 7) {dry : Int32} {mb mw : Nat → Int32} (hW : WT dry mb mw n A) {x : Nat → Nat} (hx : ∀ v, x v ≤ 4) : ∀ (i : Nat) (dp : Nat → Int32), i ≤ n → (∀ j, 1 ≤ j → j ≤ i → dp j = nI (x j)) → ∃ v dp', lp (fun s : Int32 × (Nat → Int32) => shX7_plan_L135 dry mb mw s.1 s.2) (nI i, dp) = some (nI v, dp') ∧ v ≤ i ∧ (∀ j, v < j → j ≤ i → (x j = 4 ∨ tb A j = false) ∧ dp' j = 0) ∧ (∀ j, (j ≤ v ∨ i < j) → dp' j = dp j) ∧ (v = 0 ∨ (tb A v = true ∧ x v ≠ 4))
  | 0, dp, _, _ => by
    refine ⟨0, dp, lp_inr ?_, Nat.le_refl _, fun j h1 h2 => by omega, fun _ _ => rfl, Or.inl rfl⟩
    show shX7_plan_L135 dry mb mw (nI 0) dp = _
    unfold shX7_plan_L135
    rw [if_pos (by decide)]
  | i + 1, dp, hi, hd => by
    have ent : ∀ R, (if nI (i + 1) ≤ 0 then R else ((gd (nI (i + 1)) 8).bind fun _ => (if dp (nI (i + 1)).toNatClampNeg = 4 then (shX7_plan_k135_160 (nI (i + 1)) dp) else ((shX7_isWanted (nI (i + 1)) dry mb mw).bind fun o_154 => (if ¬ o_154 = 0 then some (Sum.inr (nI (i + 1), dp)) else (shX7_plan_k135_160 (nI (i + 1)) dp)))))) = (if nI (x (i + 1)) = 4 then (shX7_plan_k135_160 (nI (i + 1)) dp) else ((shX7_isWanted (nI (i + 1)) dry mb mw).bind fun o_154 => (if ¬ o_154 = 0 then some (Sum.inr (nI (i + 1), dp)) else (shX7_plan_k135_160 (nI (i + 1)) dp)))) := fun R => by
      rw [if_neg (nI_nle (by omega) (by omega)), gd_nI (k := i + 1) (by omega) (by decide), bind_s, cl (n := i + 1) (by omega), hd (i + 1) (by omega) (Nat.le_refl _)]
    have k160 : shX7_plan_k135_160 (nI (i + 1)) dp = some (.inl (nI i, upd dp (i + 1) 0)) := by
      unfold shX7_plan_k135_160
      rw [gd_nI (k := i + 1) (by omega) (by decide), bind_s, cl (n := i + 1) (by omega), pk_m1]
    have down : (x (i + 1) = 4 ∨ tb A (i + 1) = false) → shX7_plan_L135 dry mb mw (nI (i + 1)) dp = some (.inl (nI i, upd dp (i + 1) 0)) → ∃ v dp', lp (fun s : Int32 × (Nat → Int32) => shX7_plan_L135 dry mb mw s.1 s.2) (nI (i + 1), dp) = some (nI v, dp') ∧ v ≤ i + 1 ∧ (∀ j, v < j → j ≤ i + 1 → (x j = 4 ∨ tb A j = false) ∧ dp' j = 0) ∧ (∀ j, (j ≤ v ∨ i + 1 < j) → dp' j = dp j) ∧ (v = 0 ∨ (tb A v = true ∧ x v ≠ 4)) := fun g1 g2 => by
      obtain ⟨v, dp', r1, r2, r3, r4, r5⟩ := od_1 hn hW hx i (upd dp (i + 1) 0) (by omega) (fun j h1 h2 => by rw [upd_n (by omega)]; exact hd j h1 (by omega))
      refine ⟨v, dp', ?_, by omega, fun j h1 h2 => ?_, fun j h1 => ?_, r5⟩
      · rw [lp_inl (s' := (nI i, upd dp (i + 1) 0)) g2]; exact r1
      · by_cases e : j = i + 1
        · subst e; exact ⟨g1, by rw [r4 _ (Or.inr (by omega)), upd_s]⟩
        · exact r3 j h1 (by omega)
      · rw [r4 j (h1.imp id (fun h => by omega)), upd_n (by omega)]
    have hx4 := hx (i + 1)
    by_cases c : x (i + 1) = 4
    · refine down (Or.inl c) ?_
      unfold shX7_plan_L135
      rw [ent, c, if_pos (by decide), k160]
    · have c4 : ¬ nI (x (i + 1)) = 4 := fun h => c ((nI_eq (b := 4) (by omega) (by decide)).mp h)
      obtain ⟨o, o1, o2⟩ := hW (i + 1) (by omega) hi
      by_cases cw : tb A (i + 1) = true
      · refine ⟨i + 1, dp, lp_inr ?_, Nat.le_refl _, fun j h1 h2 => by omega, fun _ _ => rfl, Or.inr ⟨cw, c⟩⟩
        show shX7_plan_L135 dry mb mw (nI (i + 1)) dp = _
        unfold shX7_plan_L135
        rw [ent, if_neg c4, o1, bind_s, if_pos (o2.mpr cw)]
      · refine down (Or.inr (by simpa using cw)) ?_
        unfold shX7_plan_L135
        rw [ent, if_neg c4, o1, bind_s, if_neg (fun h => cw (o2.mp h)), k160]
/-- the vector behind x -/
def nxv (x : Nat → Nat) (v : Nat) : Nat → Nat := fun j => if j < v then x j else if j = v then x v + 1 else 0
theorem nxv_l {x : Nat → Nat} {v j : Nat} (h : j < v) : nxv x v j = x j := if_pos h
theorem nxv_e {x : Nat → Nat} {v : Nat} : nxv x v v = x v + 1 := by unfold nxv; rw [if_neg (Nat.lt_irrefl _), if_pos rfl]
theorem nxv_g {x : Nat → Nat} {v j : Nat} (h : v < j) : nxv x v j = 0 := by unfold nxv; rw [if_neg (by omega), if_neg (by omega)]
theorem nx_V {A v : Nat} {x : Nat → Nat} (hx : Vx A x) (h1 : 1 ≤ v) (h2 : v ≤ 7) (ht : tb A v = true) (h4 : x v ≠ 4) : Vx A (nxv x v) := fun j => by
  rcases Nat.lt_trichotomy j v with h | h | h
  · rw [nxv_l h]; exact hx j
  · subst h
    rw [nxv_e]
    have := (hx j).1
    exact ⟨by omega, fun _ => ⟨h1, h2, ht⟩⟩
  · rw [nxv_g h]; exact ⟨by omega, fun h => absurd rfl h⟩
theorem nx_lt {A v : Nat} {x : Nat → Nat} (hx : Vx A x) (h1 : 1 ≤ v) (h2 : v ≤ 7) (ht : tb A v = true) (h4 : x v ≠ 4) : cd x < cd (nxv x v) := lex_lt (Vx_le hx) (Vx_le (nx_V hx h1 h2 ht h4)) h1 h2 (fun j g1 g2 => nxv_l g2) (by rw [nxv_e]; omega)
theorem cd_mono {x y : Nat → Nat} (h : ∀ v, 1 ≤ v → v ≤ 7 → x v ≤ y v) : cd x ≤ cd y := by
  have a1 := h 1 (by decide) (by decide); have a2 := h 2 (by decide) (by decide); have a3 := h 3 (by decide) (by decide); have a4 := h 4 (by decide) (by decide); have a5 := h 5 (by decide) (by decide); have a6 := h 6 (by decide) (by decide); have a7 := h 7 (by decide) (by decide)
  unfold cd
  omega
theorem df_ex {A : Nat} {x y : Nat → Nat} (hx : Vx A x) (hy : Vx A y) (h : cd x < cd y) : ∃ u, 1 ≤ u ∧ u ≤ 7 ∧ (∀ v, 1 ≤ v → v < u → y v = x v) ∧ x u < y u := by
  have hex : ∃ u, u < 7 ∧ ¬ y (u + 1) = x (u + 1) := Classical.byContradiction fun g => by
    have := lex_eq (x := x) (y := y) (fun v h1 h2 => Classical.byContradiction fun h3 => g ⟨v - 1, by omega, by rw [show v - 1 + 1 = v by omega]; exact h3⟩)
    omega
  obtain ⟨u, ⟨u1, u2⟩, u3⟩ := pk_least _ hex
  have before : ∀ v, 1 ≤ v → v < u + 1 → y v = x v := fun v h1 h2 => Classical.byContradiction fun h => u3 (v - 1) (by omega) ⟨by omega, by rw [show v - 1 + 1 = v by omega]; exact h⟩
  refine ⟨u + 1, by omega, by omega, before, Classical.byContradiction fun g => ?_⟩
  have := lex_lt (Vx_le hy) (Vx_le hx) (u := u + 1) (by omega) (by omega) (fun v h1 h2 => (before v h1 h2).symm) (by omega)
  omega
theorem nx_le {A n v : Nat} {x y : Nat → Nat} (hAn : ∀ v, 1 ≤ v → v ≤ 7 → tb A v = true → v ≤ n) (hx : Vx A x) (hy : Vx A y) (h1 : 1 ≤ v) (h2 : v ≤ 7) (ht : tb A v = true) (h4 : x v ≠ 4) (hb : ∀ j, v < j → j ≤ n → (x j = 4 ∨ tb A j = false)) (h : cd x < cd y) : cd (nxv x v) ≤ cd y := by
  obtain ⟨u, u1, u2, u3, u4⟩ := df_ex hx hy h
  obtain ⟨y4, yv⟩ := hy u
  obtain ⟨-, -, yt⟩ := yv (by omega)
  have hun := hAn u u1 u2 yt
  have huv : ¬ v < u := fun g => by
    rcases hb u g hun with e | e
    · omega
    · rw [e] at yt; exact absurd yt (by decide)
  have hn' := Vx_le (nx_V hx h1 h2 ht h4)
  rcases Nat.lt_or_ge u v with g | g
  · exact Nat.le_of_lt (lex_lt hn' (Vx_le hy) u1 u2 (fun j j1 j2 => by rw [nxv_l (by omega)]; exact u3 j j1 j2) (by rw [nxv_l g]; exact u4))
  · have e : u = v := by omega
    subst e
    by_cases c : x u + 1 < y u
    · exact Nat.le_of_lt (lex_lt hn' (Vx_le hy) u1 u2 (fun j j1 j2 => by rw [nxv_l (by omega)]; exact u3 j j1 j2) (by rw [nxv_e]; exact c))
    · refine cd_mono (fun j j1 j2 => ?_)
      rcases Nat.lt_trichotomy j u with q | q | q
      · rw [nxv_l q, u3 j j1 q]; exact Nat.le_refl _
      · subst q; rw [nxv_e]; omega
      · rw [nxv_g q]; exact Nat.zero_le _
theorem nx_end {A n : Nat} {x y : Nat → Nat} (hAn : ∀ v, 1 ≤ v → v ≤ 7 → tb A v = true → v ≤ n) (hx : Vx A x) (hy : Vx A y) (hb : ∀ j, 0 < j → j ≤ n → (x j = 4 ∨ tb A j = false)) : cd y ≤ cd x := Classical.byContradiction fun h => by
  obtain ⟨u, u1, u2, u3, u4⟩ := df_ex hx hy (by omega)
  obtain ⟨y4, yv⟩ := hy u
  obtain ⟨-, -, yt⟩ := yv (by omega)
  rcases hb u (by omega) (hAn u u1 u2 yt) with e | e
  · omega
  · rw [e] at yt; exact absurd yt (by decide)
theorem cd_1 {A : Nat} {x y : Nat → Nat} (hx : Vx A x) (hy : Vx A y) (h : cd x = cd y) : x = y := Vx_ext hx hy (cd_inj (Vx_le hx) (Vx_le hy) h)
/-! plan: the sums over one vector -/
def psm (f : Nat → Nat) : Nat → Nat
  | 0 => 0
  | k + 1 => psm f k + f (k + 1)
theorem psm_7 (f : Nat → Nat) : psm f 7 = sm f := by
  show 0 + f 1 + f 2 + f 3 + f 4 + f 5 + f 6 + f 7 = sm f
  unfold sm
  omega
theorem psm_x {f : Nat → Nat} {n : Nat} : ∀ k, (∀ j, n < j → j ≤ n + k → f j = 0) → psm f (n + k) = psm f n
  | 0, _ => rfl
  | k + 1, h => by
    show psm f (n + k) + f (n + k + 1) = _
    rw [h (n + k + 1) (by omega) (by omega), psm_x k (fun j h1 h2 => h j h1 (by omega)), Nat.add_zero]
theorem psm_n {f : Nat → Nat} {n : Nat} (hn : n ≤ 7) (h : ∀ j, n < j → j ≤ 7 → f j = 0) : psm f n = sm f := by
  obtain ⟨k, hk⟩ : ∃ k, 7 = n + k := ⟨7 - n, by omega⟩
  rw [← psm_7, hk, psm_x k (fun j h1 h2 => h j h1 (by omega))]
theorem su_c {n v : Nat} (hn : n ≤ 7) {x pe : Nat → Nat} {g h : Nat → Nat → Nat} {mp ho dp : Nat → Int32} (hx : ∀ j, x j ≤ 4) (hx0 : ∀ j, n < j → j ≤ 7 → x j = 0) (g0 : ∀ v, g v 0 = 0) (hp : ∀ j, 1 ≤ j → j ≤ n → mp j = nI (pe j) ∧ pe j ≤ 9999) (hb : ∀ v d, h v d < 1048576) (hh : ∀ v d, 1 ≤ v → v ≤ n → 1 ≤ d → d ≤ 4 → ho (5 * v + d) = nI (h v d)) (hg : ∀ v d, 1 ≤ v → v ≤ n → 1 ≤ d → d ≤ 4 → g v d = pe v * h v d) (hd : ∀ j, 1 ≤ j → j ≤ n → upd dp (nI v).toNatClampNeg (dp (nI v).toNatClampNeg + 1) j = nI (x j)) :
    lp (fun s : Int32 × Int32 × Int32 × Int64 × Int32 => shX7_plan_L220 (nI n) mp ho (nI v) dp s.1 s.2.1 s.2.2.1 s.2.2.2.1 s.2.2.2.2) (0, 0, 0, (0 : Int64), 1) = some (nI (mk x), nI (sm x), nI (pc (mk x)), lN (wsum g x)) := by
  have key := lp_inv (f := fun s : Int32 × Int32 × Int32 × Int64 × Int32 => shX7_plan_L220 (nI n) mp ho (nI v) dp s.1 s.2.1 s.2.2.1 s.2.2.2.1 s.2.2.2.2) (fun i s => ∃ S, S < 2 ^ i ∧ (∀ u, u < 7 → tb S (u + 1) = (decide (u < i) && !decide (x (u + 1) = 0))) ∧ s = (nI S, nI (psm x i), nI (pc S), lN (psm (fun j => g j (x j)) i), nI (i + 1))) (fun r => r = (nI (mk x), nI (sm x), nI (pc (mk x)), lN (wsum g x))) n 0 (0, 0, 0, (0 : Int64), 1) ⟨0, by decide, fun u hu => by unfold tb; rw [Nat.zero_testBit]; simp, rfl⟩ (fun i s _ hi ⟨S, a1, a2, a3⟩ => by
    subst a3
    have hi7 : i < 7 := by omega
    have hdi := hd (i + 1) (by omega) (by omega)
    have e5 : ((5 : Int32) * nI (i + 1)) + nI (x (i + 1)) = nI (5 * (i + 1) + x (i + 1)) := by rw [show (5 : Int32) = nI 5 from rfl, pk_mul, nI_add]
    have hx4 := hx (i + 1)
    show ∃ s', shX7_plan_L220 (nI n) mp ho (nI v) dp (nI S) (nI (psm x i)) (nI (pc S)) (lN (psm (fun j => g j (x j)) i)) (nI (i + 1)) = some (.inl s') ∧ _
    unfold shX7_plan_L220 shX7_plan_k220_300
    rw [if_neg (nlt (a := n) (b := i + 1) (by omega) (by omega)), gd_nI (k := i + 1) (by omega) (by decide), cl (n := i + 1) (by omega), hdi, e5, nI_1]
    simp only [bind_s]
    by_cases c : x (i + 1) = 0
    · rw [c, if_neg (not_not_intro (show nI 0 = 0 from rfl))]
      refine ⟨_, rfl, S, by rw [ps2]; omega, fun u hu => ?_, ?_⟩
      · rw [a2 u hu]
        by_cases e : u = i
        · subst e; simp [c]
        · rw [show decide (u < i) = decide (u < i + 1) from decide_eq_decide.mpr (by omega)]
      · show _ = (nI S, nI (psm x i + x (i + 1)), nI (pc S), lN (psm (fun j => g j (x j)) i + g (i + 1) (x (i + 1))), nI (i + 1 + 1))
        rw [c, g0, nI_1]
        rfl
    · rw [if_pos (ne_0 (by omega) (by omega)), gd_nI (k := 5 * (i + 1) + x (i + 1)) (by omega) (by decide), cl (n := 5 * (i + 1) + x (i + 1)) (by omega), bind_s]
      have hhi := hh (i + 1) (x (i + 1)) (by omega) (by omega) (by omega) (by omega)
      have hpi := hp (i + 1) (by omega) (by omega)
      have hbi := hb (i + 1) (x (i + 1))
      refine ⟨_, rfl, S + 2 ^ i, by rw [ps2]; omega, fun u hu => ?_, ?_⟩
      · rw [bi12 i hi7 S a1 u hu, a2 u hu]
        by_cases e : u = i
        · subst e; simp [c]
        · rw [show decide (u < i) = decide (u < i + 1) from decide_eq_decide.mpr (by omega)]; simp [e]
      · show _ = (nI (S + 2 ^ i), nI (psm x i + x (i + 1)), nI (pc (S + 2 ^ i)), lN (psm (fun j => g j (x j)) i + g (i + 1) (x (i + 1))), nI (i + 1 + 1))
        rw [bi13 i hi7 S a1, hg (i + 1) (x (i + 1)) (by omega) (by omega) (by omega) (by omega), hhi, hpi.1, nI_l (by omega), nI_l (by omega), lN_mul, lN_add, nI_add, nI_1]
        rw [show (nI S ||| 1 <<< ((nI (i + 1) - 1) &&& 31)) = nI (S + 2 ^ i) from bi5 i hi7 S a1]) (fun s ⟨S, a1, a2, a3⟩ => by
    subst a3
    rw [Nat.zero_add] at a1 a2 ⊢
    have hSn : S < 128 := by have := pw7 hn; omega
    have hS : S = mk x := tb_ext hSn (mk_lt x) (fun u h1 h2 => by
      have := a2 (u - 1) (by omega)
      rw [show u - 1 + 1 = u by omega] at this
      rw [this, mk_tb x h1 h2]
      by_cases e : u - 1 < n
      · simp [e]
      · rw [hx0 u (by omega) h2]; simp [e])
    refine ⟨(nI S, nI (psm x n), nI (pc S), lN (psm (fun j => g j (x j)) n)), ?_, ?_⟩
    · show shX7_plan_L220 (nI n) mp ho (nI v) dp (nI S) (nI (psm x n)) (nI (pc S)) (lN (psm (fun j => g j (x j)) n)) (nI (n + 1)) = _
      unfold shX7_plan_L220
      rw [if_pos (nI_lt (by omega) (by omega))]
    · rw [hS, psm_n hn hx0, psm_n hn (fun j h1 h2 => by rw [hx0 j h1 h2, g0])]; rfl)
  obtain ⟨r, k1, k2⟩ := key
  rw [k1, k2]
theorem cp_c {n : Nat} (hn : n ≤ 7) (dp bd : Nat → Int32) : ∃ bd', lp (fun s : Int32 × (Nat → Int32) => shX7_plan_L426 (nI n) dp s.1 s.2) (1, bd) = some bd' ∧ ∀ j, 1 ≤ j → j ≤ n → bd' j = dp j := by
  refine lp_inv (f := fun s : Int32 × (Nat → Int32) => shX7_plan_L426 (nI n) dp s.1 s.2) (fun i s => s.1 = nI i ∧ ∀ j, 1 ≤ j → j < i → s.2 j = dp j) (fun r => ∀ j, 1 ≤ j → j ≤ n → r j = dp j) n 1 (1, bd) ⟨rfl, fun j h1 h2 => by omega⟩ (fun i s hi1 hi ⟨h1, h2⟩ => ?_) (fun s ⟨h1, h2⟩ => ?_)
  · obtain ⟨x, b⟩ := s
    dsimp only at h1 h2
    subst h1
    refine ⟨(nI (i + 1), upd b i (dp i)), ?_, rfl, fun j j1 j2 => ?_⟩
    · show shX7_plan_L426 (nI n) dp (nI i) b = _
      unfold shX7_plan_L426
      rw [if_neg (nlt (a := n) (b := i) (by omega) (by omega)), gd_nI (k := i) (by omega) (by decide), cl (n := i) (by omega), bind_s, bind_s, nI_1]
    · dsimp only
      by_cases c : j = i
      · subst c; rw [upd_s]
      · rw [upd_n c]; exact h2 j j1 (by omega)
  · obtain ⟨x, b⟩ := s
    dsimp only at h1 h2
    subst h1
    refine ⟨b, ?_, fun j j1 j2 => h2 j j1 (by omega)⟩
    show shX7_plan_L426 (nI n) dp (nI (1 + n)) b = _
    unfold shX7_plan_L426
    rw [if_pos (nI_lt (by omega) (by omega))]
