/-! plan: the reference's choice -/
def RB (A : Nat) (g : Nat → Nat → Nat) (dS : Nat → Nat) (re q0 t0 n : Nat) (x : Nat → Nat) (w : Int64) (p d s : Int32) (bd : Nat → Int32) : Prop := ∃ B, Fe A dS re q0 t0 B ∧ w = lN (wsum g B) ∧ p = nI (sm B) ∧ d = nI (Tx dS re B) ∧ s = nI (mk B) ∧ (∀ v, 1 ≤ v → v ≤ n → bd v = nI (B v)) ∧ cd B ≤ cd x ∧ ∀ y, Fe A dS re q0 t0 y → cd y ≤ cd x → key g dS re y ≤ key g dS re B
theorem mk_n {A n : Nat} (hAn : ∀ v, 1 ≤ v → v ≤ 7 → tb A v = true → v ≤ n) {x : Nat → Nat} (hx : Vx A x) : ∀ v, 1 ≤ v → v ≤ 7 → tb (mk x) v = true → v ≤ n := fun v h1 h2 h => by
  rw [mk_tb x h1 h2] at h
  exact hAn v h1 h2 ((hx v).2 (by simpa using h)).2.2
theorem od_3 {A n q0 t0 re a : Nat} {g : Nat → Nat → Nat} {wd mw dy : Nat → Int32} (hY : IY wd mw) (hn : n ≤ 7) (hD : DY wd n dy) (ha : a ≤ 7) (hq0 : q0 ≤ 28) (ht0 : t0 ≤ 99) (hre : re ≤ 9) (hg : ∀ v d, g v d ≤ 10485750000) (hAn : ∀ v, 1 ≤ v → v ≤ 7 → tb A v = true → v ≤ n) {x x' : Nat → Nat} (hx : Vx A x) (hx' : Vx A x') (hlt : cd x < cd x') (hnx : ∀ y, Vx A y → cd x < cd y → cd x' ≤ cd y) {w : Int64} {p d s : Int32} {bd : Nat → Int32} (hR : RB A g (fun S => rS (stp wd) n S a) re q0 t0 n x w p d s bd) {dp : Nat → Int32} (hdp : ∀ v, 1 ≤ v → v ≤ n → dp v = nI (x' v)) :
    ∃ w' p' d' s' bd', shX7_plan_k124_306 (nI q0) (nI t0) (nI re) (nI n) (nI a) mw dy w p d s bd 1 (nI (mk x')) (nI (sm x')) (nI (pc (mk x'))) (lN (wsum g x')) dp = some (.inl (w', p', d', s', 1, dp, bd')) ∧ RB A g (fun S => rS (stp wd) n S a) re q0 t0 n x' w' p' d' s' bd' := by
  obtain ⟨B, b1, rfl, rfl, rfl, rfl, b6, b7, b8⟩ := hR
  have hcx := cd_lt (Vx_le hx')
  have hcB := cd_lt (Vx_le b1.1)
  have hPB := b1.2.1
  have hTB := b1.2.2
  have hWB := ws_b hg B
  have hWx := ws_b hg x'
  have hbits := mk_n hAn hx'
  have hth := th_c hY hn hD (mk_lt x') hbits ha
  have hpc := pc_le (mk_lt x')
  have hrp : re * pc (mk x') ≤ 63 := Nat.mul_le_mul hre hpc
  have hsm : sm x' ≤ 28 := by
    have a1 := Vx_le hx' 1; have a2 := Vx_le hx' 2; have a3 := Vx_le hx' 3; have a4 := Vx_le hx' 4; have a5 := Vx_le hx' 5; have a6 := Vx_le hx' 6; have a7 := Vx_le hx' 7
    unfold sm; omega
  have hone : ∀ y, Vx A y → cd y ≤ cd x' → cd y ≤ cd x ∨ y = x' := fun y hy h => by
    by_cases c : cd y ≤ cd x
    · exact Or.inl c
    · exact Or.inr (cd_1 hy hx' (Nat.le_antisymm h (hnx y hy (by omega))))
  have keep : (Fe A (fun S => rS (stp wd) n S a) re q0 t0 x' → key g (fun S => rS (stp wd) n S a) re x' ≤ key g (fun S => rS (stp wd) n S a) re B) → RB A g (fun S => rS (stp wd) n S a) re q0 t0 n x' (lN (wsum g B)) (nI (sm B)) (nI (Tx (fun S => rS (stp wd) n S a) re B)) (nI (mk B)) bd := fun h => by
    refine ⟨B, b1, rfl, rfl, rfl, rfl, b6, by omega, fun y hy hc => ?_⟩
    rcases hone y hy.1 hc with e | e
    · exact b8 y hy e
    · subst e; exact h hy
  have kB : key g (fun S => rS (stp wd) n S a) re B = kyx (wsum g B) (sm B) (Tx (fun S => rS (stp wd) n S a) re B) (cd B) := rfl
  have kx : key g (fun S => rS (stp wd) n S a) re x' = kyx (wsum g x') (sm x') (Tx (fun S => rS (stp wd) n S a) re x') (cd x') := rfl
  have hT : Tx (fun S => rS (stp wd) n S a) re x' = rS (stp wd) n (mk x') a + (sm x' + re * pc (mk x')) := by
    unfold Tx
    dsimp only
    omega
  unfold shX7_plan_k124_306
  by_cases cP : sm x' ≤ q0
  · rw [if_neg (nlt cP (by omega))]
    by_cases cW : wsum g B ≤ wsum g x'
    · rw [if_pos ((pk_lLE (by omega) (by omega)).mpr cW), hth, bind_s]
      by_cases cD : rS (stp wd) n (mk x') a < 1000
      · rw [fe_1 cD, if_pos (show nI (rS (stp wd) n (mk x') a) < (9999 : Int32) from nI_lt (b := 9999) (by omega) (by decide)), pk_mul, nI_add, nI_add, ← hT]
        by_cases cT : Tx (fun S => rS (stp wd) n S a) re x' ≤ t0
        · rw [if_pos (nI_le cT (by omega))]
          have hF : Fe A (fun S => rS (stp wd) n S a) re q0 t0 x' := ⟨hx', cP, cT⟩
          have take : key g (fun S => rS (stp wd) n S a) re B < key g (fun S => rS (stp wd) n S a) re x' → ∃ w' p' d' s' bd', shX7_plan_k124_393 (nI n) (lN (wsum g B)) (nI (sm B)) (nI (Tx (fun S => rS (stp wd) n S a) re B)) (nI (mk B)) bd 1 (nI (mk x')) (nI (sm x')) (lN (wsum g x')) (nI (Tx (fun S => rS (stp wd) n S a) re x')) dp = some (.inl (w', p', d', s', 1, dp, bd')) ∧ RB A g (fun S => rS (stp wd) n S a) re q0 t0 n x' w' p' d' s' bd' := fun h => by
            obtain ⟨bd', q1, q2⟩ := cp_c hn dp bd
            refine ⟨lN (wsum g x'), nI (sm x'), nI (Tx (fun S => rS (stp wd) n S a) re x'), nI (mk x'), bd', ?_, x', hF, rfl, rfl, rfl, rfl, fun v h1 h2 => by rw [q2 v h1 h2, hdp v h1 h2], Nat.le_refl _, fun y hy hc => ?_⟩
            · unfold shX7_plan_k124_393 shX7_plan_k124_398 shX7_plan_k124_455
              rw [n10, q1, bind_s]
            · rcases hone y hy.1 hc with e | e
              · exact Nat.le_trans (b8 y hy e) (Nat.le_of_lt h)
              · subst e; exact Nat.le_refl _
          have stay : key g (fun S => rS (stp wd) n S a) re x' ≤ key g (fun S => rS (stp wd) n S a) re B → ∃ w' p' d' s' bd', shX7_plan_k124_397 (nI n) (lN (wsum g B)) (nI (sm B)) (nI (Tx (fun S => rS (stp wd) n S a) re B)) (nI (mk B)) bd 1 (nI (mk x')) (nI (sm x')) (lN (wsum g x')) (nI (Tx (fun S => rS (stp wd) n S a) re x')) dp = some (.inl (w', p', d', s', 1, dp, bd')) ∧ RB A g (fun S => rS (stp wd) n S a) re q0 t0 n x' w' p' d' s' bd' := fun h => by
            refine ⟨_, _, _, _, _, ?_, keep (fun _ => h)⟩
            unfold shX7_plan_k124_397 shX7_plan_k124_398
            rw [n00]
          rw [kB, kx] at take stay
          generalize Tx (fun S => rS (stp wd) n S a) re x' = Tn at *
          generalize Tx (fun S => rS (stp wd) n S a) re B = Tb at *
          by_cases c1 : wsum g B < wsum g x'
          · rw [if_pos ((pk_lLT (by omega) (by omega)).mpr c1)]
            exact take (by unfold kyx; omega)
          · rw [if_neg (fun h => c1 ((pk_lLT (by omega) (by omega)).mp h))]
            by_cases c2 : sm x' < sm B
            · rw [if_pos (nI_lt c2 (by omega))]
              exact take (by unfold kyx; omega)
            · rw [if_neg (nlt (by omega) (by omega))]
              by_cases c3 : sm x' = sm B
              · rw [if_neg (not_not_intro (by rw [c3]))]
                by_cases c4 : Tb ≤ Tn
                · rw [if_pos (nI_le c4 (by omega))]
                  exact stay (by unfold kyx; omega)
                · rw [if_neg (nle (by omega) (by omega))]
                  exact take (by unfold kyx; omega)
              · rw [if_pos (fun h => c3 ((nI_eq (by omega) (by omega)).mp h))]
                exact stay (by unfold kyx; omega)
        · rw [if_neg (nle (by omega) (by omega))]
          exact ⟨_, _, _, _, _, rfl, keep (fun h => absurd h.2.2 cT)⟩
      · rw [fe_2 cD, if_neg (show ¬ nI 9999 < (9999 : Int32) by decide)]
        exact ⟨_, _, _, _, _, rfl, keep (fun h => by have := h.2.2; omega)⟩
    · rw [if_neg (fun h => cW ((pk_lLE (by omega) (by omega)).mp h))]
      refine ⟨_, _, _, _, _, rfl, keep (fun h => ?_)⟩
      have := h.2.2
      rw [kB, kx]
      unfold kyx
      omega
  · rw [if_pos (nI_lt (by omega) (by omega))]
    exact ⟨_, _, _, _, _, rfl, keep (fun h => absurd h.2.1 cP)⟩
theorem od_c {A n q0 t0 re a : Nat} {g h : Nat → Nat → Nat} {pe : Nat → Nat} {dry : Int32} {wd mw dy mb ml mp ho : Nat → Int32} (hY : IY wd mw) (hn : n ≤ 7) (hD : DY wd n dy) (ha : a ≤ 7) (hq0 : q0 ≤ 28) (ht0 : t0 ≤ 99) (hre : re ≤ 9) (hg : ∀ v d, g v d ≤ 10485750000) (hAn : ∀ v, 1 ≤ v → v ≤ 7 → tb A v = true → v ≤ n) (hW : WT dry mb ml n A) (g0 : ∀ v, g v 0 = 0) (hp : ∀ j, 1 ≤ j → j ≤ n → mp j = nI (pe j) ∧ pe j ≤ 9999) (hb : ∀ v d, h v d < 1048576) (hh : ∀ v d, 1 ≤ v → v ≤ n → 1 ≤ d → d ≤ 4 → ho (5 * v + d) = nI (h v d)) (hgh : ∀ v d, 1 ≤ v → v ≤ n → 1 ≤ d → d ≤ 4 → g v d = pe v * h v d) :
    ∀ (m : Nat) (x : Nat → Nat) (w : Int64) (p d s : Int32) (dp bd : Nat → Int32), 78125 - cd x < m → Vx A x → (∀ v, 1 ≤ v → v ≤ n → dp v = nI (x v)) → RB A g (fun S => rS (stp wd) n S a) re q0 t0 n x w p d s bd →
    ∃ B dp' bd', lp (fun s : Int64 × Int32 × Int32 × Int32 × Int32 × (Nat → Int32) × (Nat → Int32) => shX7_plan_L124 (nI q0) (nI t0) dry (nI re) (nI n) (nI a) mp mb ml mw dy ho s.1 s.2.1 s.2.2.1 s.2.2.2.1 s.2.2.2.2.1 s.2.2.2.2.2.1 s.2.2.2.2.2.2) (w, p, d, s, 1, dp, bd) = some (lN (wsum g B), nI (sm B), nI (Tx (fun S => rS (stp wd) n S a) re B), nI (mk B), dp', bd') ∧ Fe A (fun S => rS (stp wd) n S a) re q0 t0 B ∧ (∀ v, 1 ≤ v → v ≤ n → bd' v = nI (B v)) ∧ ∀ y, Fe A (fun S => rS (stp wd) n S a) re q0 t0 y → key g (fun S => rS (stp wd) n S a) re y ≤ key g (fun S => rS (stp wd) n S a) re B
  | 0, _, _, _, _, _, _, _, h, _, _, _ => by omega
  | m + 1, x, w, p, d, s, dp, bd, hm, hx, hdp, hR => by
    obtain ⟨v, dp', r1, r2, r3, r4, r5⟩ := od_1 hn hW (Vx_le hx) n dp (Nat.le_refl _) hdp
    have hcx := cd_lt (Vx_le hx)
    by_cases c : v = 0
    · subst c
      have st1 : shX7_plan_L124 (nI q0) (nI t0) dry (nI re) (nI n) (nI a) mp mb ml mw dy ho w p d s 1 dp bd = some (.inl (w, p, d, s, 0, dp', bd)) := by
        unfold shX7_plan_L124 shX7_plan_k124_174 shX7_plan_k124_184
        rw [i10, r1, bind_s]
        dsimp only
        rw [if_pos (show nI 0 ≤ 0 by decide), n00]
      have st2 : shX7_plan_L124 (nI q0) (nI t0) dry (nI re) (nI n) (nI a) mp mb ml mw dy ho w p d s 0 dp' bd = some (.inr (w, p, d, s, dp', bd)) := by
        unfold shX7_plan_L124
        rw [i00]
      obtain ⟨B, b1, rfl, rfl, rfl, rfl, b6, b7, b8⟩ := hR
      refine ⟨B, dp', bd, ?_, b1, b6, fun y hy => b8 y hy (nx_end hAn hx hy.1 (fun j h1 h2 => (r3 j h1 h2).1))⟩
      rw [lp_inl (s' := (_, _, _, _, 0, dp', bd)) st1]
      exact lp_inr st2
    · have v1 : 1 ≤ v := by omega
      obtain ⟨vt, v4⟩ := r5.resolve_left c
      have hxv := Vx_le hx v
      have hcl : (nI v).toNatClampNeg = v := cl (by omega)
      have hV := nx_V hx v1 (by omega) vt v4
      have hlt := nx_lt hx v1 (by omega) vt v4
      have hd' : ∀ j, 1 ≤ j → j ≤ n → upd dp' (nI v).toNatClampNeg (dp' (nI v).toNatClampNeg + 1) j = nI (nxv x v j) := fun j j1 j2 => by
        rw [hcl]
        rcases Nat.lt_trichotomy j v with q | q | q
        · rw [upd_n (by omega), nxv_l q, r4 j (Or.inl (by omega)), hdp j j1 j2]
        · subst q; rw [upd_s, nxv_e, r4 j (Or.inl (Nat.le_refl _)), hdp j j1 j2, nI_1]
        · rw [upd_n (by omega), nxv_g q, (r3 j q j2).2]; rfl
      have hs := su_c hn (x := nxv x v) (v := v) (Vx_le hV) (fun j j1 j2 => Classical.byContradiction fun e => by
        have := hAn j (by omega) j2 ((hV j).2 e).2.2
        omega) g0 hp hb hh hgh hd'
      obtain ⟨w', p', d', s', bd', k1, k2⟩ := od_3 hY hn hD ha hq0 ht0 hre hg hAn hx hV hlt (fun y hy hc => nx_le hAn hx hy v1 (by omega) vt v4 (fun j j1 j2 => (r3 j j1 j2).1) hc) hR hd'
      have st1 : shX7_plan_L124 (nI q0) (nI t0) dry (nI re) (nI n) (nI a) mp mb ml mw dy ho w p d s 1 dp bd = some (.inl (w', p', d', s', 1, upd dp' (nI v).toNatClampNeg (dp' (nI v).toNatClampNeg + 1), bd')) := by
        unfold shX7_plan_L124 shX7_plan_k124_174 shX7_plan_k124_184
        rw [i10, r1, bind_s]
        dsimp only
        rw [if_neg (nI_nle (by omega) (by omega)), n10, gd_nI (k := v) (by omega) (by decide), bind_s, bind_s, hs, bind_s]
        exact k1
      obtain ⟨B, dp2, bd2, z1, z2⟩ := od_c hY hn hD ha hq0 ht0 hre hg hAn hW g0 hp hb hh hgh m (nxv x v) w' p' d' s' _ bd' (by omega) hV hd' k2
      exact ⟨B, dp2, bd2, by rw [lp_inl (s' := (w', p', d', s', 1, upd dp' (nI v).toNatClampNeg (dp' (nI v).toNatClampNeg + 1), bd')) st1]; exact z1, z2⟩
theorem z8_c (dp bd : Nat → Int32) : ∃ r : (Nat → Int32) × (Nat → Int32), lp (fun s : Int32 × (Nat → Int32) × (Nat → Int32) => shX7_plan_L84 s.1 s.2.1 s.2.2) (0, dp, bd) = some r ∧ (∀ j, j < 8 → r.1 j = 0 ∧ r.2 j = 0) := by
  refine lp_inv (f := fun s : Int32 × (Nat → Int32) × (Nat → Int32) => shX7_plan_L84 s.1 s.2.1 s.2.2) (fun i s => s.1 = nI i ∧ ∀ j, j < i → s.2.1 j = 0 ∧ s.2.2 j = 0) (fun r => ∀ j, j < 8 → r.1 j = 0 ∧ r.2 j = 0) 8 0 (0, dp, bd) ⟨rfl, fun j h => absurd h (Nat.not_lt_zero _)⟩ (fun i s _ hi ⟨h1, h2⟩ => ?_) (fun s ⟨h1, h2⟩ => ?_)
  · obtain ⟨x, a, b⟩ := s
    dsimp only at h1 h2
    subst h1
    refine ⟨(nI (i + 1), upd a i 0, upd b i 0), ?_, rfl, fun j hj => ?_⟩
    · show shX7_plan_L84 (nI i) a b = _
      unfold shX7_plan_L84
      rw [if_neg (show ¬ (8 : Int32) ≤ nI i from nI_ge (b := 8) (by omega) (by decide)), gd_nI (k := i) (by omega) (by decide), cl (n := i) (by omega), bind_s, bind_s, nI_1]
    · dsimp only
      by_cases c : j = i
      · subst c; rw [upd_s, upd_s]; exact ⟨rfl, rfl⟩
      · rw [upd_n c, upd_n c]; exact h2 j (by omega)
  · obtain ⟨x, a, b⟩ := s
    dsimp only at h1 h2
    subst h1
    refine ⟨(a, b), ?_, fun j hj => h2 j (by omega)⟩
    show shX7_plan_L84 (nI (0 + 8)) a b = _
    unfold shX7_plan_L84
    rw [if_pos (by decide)]
theorem cd_z : cd (fun _ => 0) = 0 := rfl
theorem od_0 {A n q0 t0 re a : Nat} {g h : Nat → Nat → Nat} {pe : Nat → Nat} {dry : Int32} {wd mw dy mb ml mp ho : Nat → Int32} (hY : IY wd mw) (hn : n ≤ 7) (hD : DY wd n dy) (ha : a ≤ 7) (hq0 : q0 ≤ 28) (ht0 : t0 ≤ 99) (hre : re ≤ 9) (hg : ∀ v d, g v d ≤ 10485750000) (hAn : ∀ v, 1 ≤ v → v ≤ 7 → tb A v = true → v ≤ n) (hW : WT dry mb ml n A) (g0 : ∀ v, g v 0 = 0) (hp : ∀ j, 1 ≤ j → j ≤ n → mp j = nI (pe j) ∧ pe j ≤ 9999) (hb : ∀ v d, h v d < 1048576) (hh : ∀ v d, 1 ≤ v → v ≤ n → 1 ≤ d → d ≤ 4 → ho (5 * v + d) = nI (h v d)) (hgh : ∀ v d, 1 ≤ v → v ≤ n → 1 ≤ d → d ≤ 4 → g v d = pe v * h v d) {dp bd : Nat → Int32} (hz : ∀ j, j < 8 → dp j = 0 ∧ bd j = 0) :
    ∃ B dp' bd', lp (fun s : Int64 × Int32 × Int32 × Int32 × Int32 × (Nat → Int32) × (Nat → Int32) => shX7_plan_L124 (nI q0) (nI t0) dry (nI re) (nI n) (nI a) mp mb ml mw dy ho s.1 s.2.1 s.2.2.1 s.2.2.2.1 s.2.2.2.2.1 s.2.2.2.2.2.1 s.2.2.2.2.2.2) ((0 : Int64), 0, 0, 0, 1, dp, bd) = some (lN (wsum g B), nI (sm B), nI (Tx (fun S => rS (stp wd) n S a) re B), nI (mk B), dp', bd') ∧ Fe A (fun S => rS (stp wd) n S a) re q0 t0 B ∧ (∀ v, 1 ≤ v → v ≤ n → bd' v = nI (B v)) ∧ ∀ y, Fe A (fun S => rS (stp wd) n S a) re q0 t0 y → key g (fun S => rS (stp wd) n S a) re y ≤ key g (fun S => rS (stp wd) n S a) re B := by
  have s0 : sm (fun _ => 0) = 0 := rfl
  have T0 : Tx (fun S => rS (stp wd) n S a) re (fun _ => 0) = 0 := by
    unfold Tx
    dsimp only
    rw [mk_z, rS_0, s0]
    show 0 + (0 + re * 0) = 0
    omega
  refine od_c hY hn hD ha hq0 ht0 hre hg hAn hW g0 hp hb hh hgh 78126 (fun _ => 0) 0 0 0 0 dp bd (by omega) Vx_0 (fun v h1 h2 => (hz v (by omega)).1) ⟨fun _ => 0, ⟨Vx_0, by omega, by omega⟩, ?_, ?_, ?_, ?_, fun v h1 h2 => (hz v (by omega)).2, Nat.le_refl _, fun y hy hc => ?_⟩
  · rw [ws_0 g0 (fun _ _ _ => rfl)]; exact lN0
  · rw [s0]; rfl
  · rw [T0]; rfl
  · rw [mk_z]; rfl
  · rw [cd_1 hy.1 Vx_0 (by rw [cd_z] at hc ⊢; omega)]; exact Nat.le_refl _
