/-! plan -/
theorem pu_plan {bn : Nat → Int32} {salt dry rest : Int32} (hU : IU bn salt dry rest) {rs : Int32} {rp rc rw' rb rpi : Nat → Int32} {mr : Int32} {mp mpi mpipe mmet mch : Nat → Int32} {mall : Int32} (hK : IK rs rp rc rw' rb rpi mr mp mpi mpipe mmet mch mall) {vs : Int32} {vr vp vb vw ve vu : Nat → Int32} {mv : Int32} {xr xp xb xw xe xu : Nat → Int32} (hV : IV rs vs vr vp vb vw ve vu mv xr xp xb xw xe xu) {wd mw : Nat → Int32} (hY : IY wd mw) {rgp day mat mday : Int32} (hG : IG vs rgp day mat mday) {made pipes days stops : Int32} {depths order : Nat → Int32} {isPlan many mpipes mdays : Int32} {pof pdepth : Nat → Int32} (hP : IP made pipes days stops depths order isPlan many mpipes mdays pof pdepth) (a1 a2 th ad : Int32) (wor : Int64) (set : Int32) (ga : Nat → Int64) (ro st : Nat → Int32) (wos : Nat → Int64) (riv : Nat → Int32) (wei : Nat → Int64) (dys dep bde hos : Nat → Int32) :
    ∃ o o', shX6_plan a1 a2 rgp bn rp rc rw' rb vs vr vp vb vw wd ad made wor set pipes days stops ga ro st wos depths riv order = some o ∧ shX7_plan a1 a2 th dry rest mv mat isPlan many mpipes mdays mp mpi mpipe mmet mch xr xp xb xw mw wei dys dep bde hos pof pdepth = some o' ∧ o.1 = o'.1 ∧ IP o.2.2.1 o.2.2.2.2.2.1 o.2.2.2.2.2.2.1 o.2.2.2.2.2.2.2.1 o.2.2.2.2.2.2.2.2.2.2.2.2.1 o.2.2.2.2.2.2.2.2.2.2.2.2.2.2 o'.2.2.1 o'.2.2.2.1 o'.2.2.2.2.1 o'.2.2.2.2.2.1 o'.2.2.2.2.2.2.2.2.2.2.2.1 o'.2.2.2.2.2.2.2.2.2.2.2.2 := by
  unfold shX6_plan shX7_plan
  rcases in0 a1 (n := 28) (by decide) with h | ⟨q0, hq0, rfl⟩
  · by_cases c : a1 < 0
    · rw [if_pos c, if_pos c]; exact ⟨_, _, rfl, rfl, rfl, hP⟩
    · have c2 : (28 : Int32) < a1 := h.resolve_left c
      rw [if_neg c, if_neg c, if_pos c2, if_pos c2]; exact ⟨_, _, rfl, rfl, rfl, hP⟩
  · have q1 : ¬ nI q0 < 0 := nlt0 (v := q0) (by omega)
    have q2 : ¬ (28 : Int32) < nI q0 := nlt (a := 28) hq0 (by decide)
    rw [if_neg q1, if_neg q1, if_neg q2, if_neg q2]
    rcases in0 a2 (n := 99) (by decide) with h | ⟨t0, ht0, rfl⟩
    · by_cases c : a2 < 0
      · rw [if_pos c, if_pos c]; exact ⟨_, _, rfl, rfl, rfl, hP⟩
      · have c2 : ¬ a2 ≤ (99 : Int32) := Int32.not_le.mpr (h.resolve_left c)
        rw [if_neg c, if_neg c, if_neg c2, if_neg c2]; exact ⟨_, _, rfl, rfl, rfl, hP⟩
    · have t1 : ¬ nI t0 < 0 := nlt0 (v := t0) (by omega)
      have t2 : nI t0 ≤ (99 : Int32) := nI_le (b := 99) ht0 (by decide)
      rw [if_neg t1, if_neg t1, if_pos t2, if_pos t2]
      clear hP
      obtain ⟨u0, u1, u2, _, _, re, _, _, hre, _, _, ere⟩ := hU
      obtain ⟨n, nr, hn, evs, emv, hnr, ers, hv⟩ := hV
      obtain ⟨a, dd, n', en', hn', ha, hdd, erp, emat, -, -⟩ := hG
      have hnn : n' = n := (nI_eq (by omega) (by omega)).mp (en'.symm.trans evs)
      subst hnn
      subst evs emv erp emat
      -- hopes and gains
      obtain ⟨h, hb, hh⟩ := hp_ex hK hn ers hnr (fun v g1 g2 => (hv v g1 g2).1)
      obtain ⟨pe, hpe⟩ : ∃ pe : Nat → Nat, ∀ v, pe v = (vp v).toNatClampNeg := ⟨fun v => (vp v).toNatClampNeg, fun _ => rfl⟩
      have hpv : ∀ v, 1 ≤ v → v ≤ n' → vp v = nI (pe v) ∧ pe v ≤ 9999 ∧ xp v = nI (pe v) := fun v g1 g2 => by
        obtain ⟨-, ⟨e1, y, y1, y2, e2⟩, -⟩ := hv v g1 g2
        have : pe v = y := by rw [hpe, e2, cl (by omega)]
        rw [this]
        exact ⟨e2, y2, by rw [← e1]; exact e2⟩
      obtain ⟨g, hgd⟩ : ∃ g : Nat → Nat → Nat, ∀ v d, g v d = if (1 ≤ v ∧ v ≤ n') ∧ 1 ≤ d ∧ d ≤ 4 then pe v * h v d else 0 := ⟨fun v d => if (1 ≤ v ∧ v ≤ n') ∧ 1 ≤ d ∧ d ≤ 4 then pe v * h v d else 0, fun _ _ => rfl⟩
      have g0 : ∀ v, g v 0 = 0 := fun v => by rw [hgd, if_neg (fun e => by omega)]
      have hgh : ∀ v d, 1 ≤ v → v ≤ n' → 1 ≤ d → d ≤ 4 → g v d = pe v * h v d := fun v d e1 e2 e3 e4 => by rw [hgd, if_pos ⟨⟨e1, e2⟩, e3, e4⟩]
      have hg : ∀ v d, g v d ≤ 10485750000 := fun v d => by
        rw [hgd]
        split
        · rename_i c
          have e1 := (hpv v c.1.1 c.1.2).2.1
          have e2 := hb v d
          exact Nat.le_trans (Nat.mul_le_mul e1 (show h v d ≤ 1048575 by omega)) (by decide)
        · omega
      obtain ⟨A, ga', k1, hA, hAt, hga0⟩ := ad_c (vb := vb) (vw := vw) (dry := dry) hn (fun v e1 e2 => ⟨(hpv v e1 e2).1, (hpv v e1 e2).2.1⟩) hb (fun v d e1 e2 e3 e4 => (hh v d e1 e2 e3 e4).1) ad ga
      have hAn : ∀ v, 1 ≤ v → v ≤ 7 → tb A v = true → v ≤ n' := fun v e1 e2 e3 => ((hAt v e1 e2).mp e3).1
      have hga : ∀ v, 1 ≤ v → v ≤ 7 → tb A v = true → ∀ d, 1 ≤ d → d ≤ 4 → ga' (5 * v + d) = lN (g v d) := fun v e1 e2 e3 d e4 e5 => by rw [hga0 v d e1 e2 e3 e4 e5, hgh v d e1 (hAn v e1 e2 e3) e4 e5]
      -- the class's ways, worths, choice
      obtain ⟨ro', st', k2, hst, hro⟩ := mw_c hY hn hA hAn ro st
      obtain ⟨wo', k3, hwo⟩ := wd_c (wo := wos) hA hq0 hg g0 hga
      have hO : ∀ S', S' < 128 → sub S' A = true → ∀ q', q' ≤ q0 → OKw A g wo' S' q' := fun S e1 e2 => hwo S (bi11 S e1 A hA e2) e2
      have hro' : ∀ S, S < 128 → sub S A = true → ∀ p, p ≤ n' → ro' (8 * S + p) = nI (rS (stp wd) n' S p) := fun S e1 e2 => hro S (bi11 S e1 A hA e2) e2
      obtain ⟨x, dp, rv, k4, hFx, hmx, hdp⟩ := ch_c (a := a) (dS := fun S => rS (stp wd) n' S a) hA hq0 ht0 hre (by omega) (fun S e1 => rS_le hn e1) (rS_0 _ _ _) (fun S e1 e2 => hro S e1 e2 a ha) hg g0 hga hO wor set pipes days depths riv
      -- the reference's
      obtain ⟨dy, m1, hdy⟩ := wy_c hY dys
      have hD : DY wd n' dy := fun S p e1 e2 e3 e4 => by rw [hdy S p e1 e3 e4, rS_n hn (S + 1) S p (by omega) e1 e2]
      obtain ⟨r2, m2, hho⟩ := rh_c hn (fun v e1 e2 w => by
        obtain ⟨⟨f1, r, f2, f3⟩, -⟩ := hv v e1 e2
        exact hp_0 hK ers hnr f2 (by omega) (f1.symm.trans f3) w) (fun v d e1 e2 e3 e4 => (hh v d e1 e2 e3 e4).2) wei hos
      obtain ⟨r3, m3, hz⟩ := z8_c dep bde
      have hW : WT dry xb xw n' A := fun v e1 e2 => by
        obtain ⟨-, -, f3, f4, -⟩ := hv v e1 e2
        have hA2 := hAt v e1 (by omega)
        unfold shX7_isWanted
        rw [gd_nI (k := v) (by omega) (by decide), cl (n := v) (by omega), bind_s]
        rcases f4 with ⟨w1, w2, -, -⟩ | ⟨k, y1, y2, w1, w2⟩
        · rw [if_neg (not_not_intro w2), bind_s, ← f3]
          by_cases c : vb v < dry
          · rw [if_neg (Int32.not_le.mpr c)]
            exact ⟨_, rfl, fun _ => hA2.mpr ⟨e2, w1, c⟩, fun _ => z10⟩
          · rw [if_pos (Int32.not_lt.mp c)]
            exact ⟨_, rfl, fun e => absurd rfl e, fun e => absurd (hA2.mp e).2.2 c⟩
        · rw [if_pos (by rw [w2]; exact ne_0 y1 (by omega))]
          exact ⟨_, rfl, fun e => absurd rfl e, fun e => absurd (hA2.mp e).2.1 (by rw [w1]; exact ne_m1 (by omega))⟩
      obtain ⟨B, dp2, bd2, m4, hFB, hbd, hmB⟩ := od_0 (a := a) (q0 := q0) (t0 := t0) (re := re) hY hn hD (by omega) hq0 ht0 hre hg hAn hW g0 (fun j e1 e2 => ⟨(hpv j e1 e2).2.2, (hpv j e1 e2).2.1⟩) hb hho hgh hz
      -- the same vector
      have hBx : B = x := by
        have e := Nat.le_antisymm (hmx B hFB) (hmB x hFx)
        unfold key kyx at e
        have e1 := hFB.2.1; have e2 := hFB.2.2; have e3 := hFx.2.1; have e4 := hFx.2.2
        have e5 := cd_lt (Vx_le hFB.1); have e6 := cd_lt (Vx_le hFx.1)
        exact cd_1 hFB.1 hFx.1 (by omega)
      subst hBx
      -- the order
      have hpc := pc_le (mk_lt B)
      have hr : rS (stp wd) n' (mk B) a < 1000 := by
        have := hFx.2.2
        unfold Tx at this
        dsimp only at this
        omega
      obtain ⟨ord', pof', pde', l1, l2, -, l4⟩ := lo_c (bd := bd2) (a := a) (N := pc (mk B)) hY hn hA (by omega) hpc hAn hD hst hro' (pc (mk B)) (mk B) a 0 (-1) order pof pdepth rfl (mk_lt B) (Vx_sub hA hFx.1) (by omega) ha hr (Or.inl ⟨rfl, rfl⟩)
      have l1' : lp (fun s : Int32 × Int32 × Int32 × (Nat → Int32) => shX1_layOrder_L10 (nI (pc (mk B))) ro' st' s.1 s.2.1 s.2.2.1 s.2.2.2) (nI a, nI (mk B), 0, order) = some ord' := l1
      have l2' : lp (fun s : Int32 × Int32 × Int32 × (Nat → Int32) × (Nat → Int32) => shX7_plan_L487 (nI n') (nI a) mw dy bd2 s.1 s.2.1 s.2.2.1 s.2.2.2.1 s.2.2.2.2) (-1, nI (mk B), 0, pof, pdepth) = some (nI (pc (mk B)), pof', pde') := l2
      refine ⟨(lN (wsum g B), nI A, 1, lN (wsum g B), nI (mk B), nI (sm B), nI (Tx (fun S => rS (stp wd) n' S a) re B), nI (pc (mk B)), ga', ro', st', wo', dp, rv, ord'), (lN (wsum g B), 0, 1, nI (pc (mk B)), nI (sm B), nI (Tx (fun S => rS (stp wd) n' S a) re B), r2.1, dy, dp2, bd2, r2.2, pof', pde'), ?_, ?_, rfl, Or.inr ⟨rfl, rfl, rfl, rfl, pc (mk B), hpc, rfl, rfl, fun j hj => ?_⟩⟩
      · unfold shX0_dry shX4_size shX0_rest shX1_worth
        simp only [bind_s]
        rw [show bn (1 : Int32).toNatClampNeg = dry from u1, show bn (2 : Int32).toNatClampNeg = nI re from u2.trans ere, k1]
        simp only [bind_s]
        rw [k2]
        simp only [bind_s]
        rw [k3]
        simp only [bind_s]
        unfold shX1_choose
        rw [k4]
        simp only [bind_s]
        unfold shX1_choose_j_94
        rw [bi4 (mk B) (mk_lt B)]
        simp only [bind_s]
        unfold shX1_layOrder shX1_layOrder_j_55
        rw [l1']
        rfl
      · rw [m1]
        simp only [bind_s]
        rw [m2]
        simp only [bind_s]
        unfold shX7_plan_j_82
        rw [m3]
        simp only [bind_s]
        unfold shX7_plan_j_110
        rw [ere, m4]
        simp only [bind_s]
        unfold shX7_plan_j_458 shX7_plan_j_658
        rw [l2']
        rfl
      · obtain ⟨v, v1, v2, e1, e2, e3⟩ := l4 j (Nat.zero_le _) hj
        exact ⟨v, v1, by omega, e1, e2, by dsimp only; rw [e3, hbd v v1 v2, hdp v v1 (by omega)]⟩
