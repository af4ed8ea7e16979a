/-! hope -/
theorem sh_l {a k p : Nat} {y : Int64} (hy : y.toBitVec.smod 64 = BitVec.ofNat 64 k) (hk : k < 64) (hp : 2 ^ k = p) (ha : a < 2 ^ 64) : lN a <<< y = lN (a * p) := by
  subst hp
  apply Int64.toBitVec_inj.mp
  rw [Int64.toBitVec_shiftLeft, hy]
  apply BitVec.eq_of_toNat_eq
  have hb : (lN a).toBitVec.toNat = a := Nat.mod_eq_of_lt ha
  have hk' : (BitVec.ofNat 64 k).toNat = k := Nat.mod_eq_of_lt (by omega)
  have h : ((lN a).toBitVec <<< BitVec.ofNat 64 k).toNat = (a * 2 ^ k) % 2 ^ 64 := by simp only [BitVec.shiftLeft_eq', BitVec.toNat_shiftLeft, hb, hk', Nat.shiftLeft_eq]
  exact h
def prD (c : Nat → Nat) : Nat → Nat
  | 0 => 1
  | k + 1 => prD c k * (16 - c k)
theorem prD_le {c : Nat → Nat} : ∀ d, prD c d ≤ 16 ^ d
  | 0 => Nat.le_refl 1
  | d + 1 => Nat.mul_le_mul (prD_le d) (by omega)
theorem prD_pos {c : Nat → Nat} : ∀ d, (∀ k, k < d → c k ≤ 15) → 1 ≤ prD c d
  | 0, _ => Nat.le_refl 1
  | d + 1, h => Nat.mul_pos (prD_pos d (fun k hk => h k (by omega))) (by have := h d (by omega); omega)
def uP (Wq : Nat → Nat) (c : Nat → Nat → Nat) (d : Nat) : Nat → Nat
  | 0 => 0
  | q + 1 => uP Wq c d q + Wq q * (16 ^ d - prD (c q) d)
theorem p16 {d : Nat} (h1 : 1 ≤ d) (h2 : d ≤ 4) : (1 : Int64) <<< (((4 * nI d)).toInt64 &&& 63) = lN (16 ^ d) := by
  have : d = 1 ∨ d = 2 ∨ d = 3 ∨ d = 4 := by omega
  rcases this with rfl | rfl | rfl | rfl <;> decide
theorem wp_c {q d : Nat} {c : Nat → Nat} (hq : q < 3) (h1 : 1 ≤ d) (h2 : d ≤ 4) {ch : Nat → Int32} (hc : ∀ k, k < 4 → ch (4 * q + k) = nI (c k) ∧ c k ≤ 15) : shX2_wetParts (nI q) (nI d) ch = some (lN (16 ^ d - prD c d)) := by
  have key : lp (fun s : Int64 × Int32 => shX2_wetParts_L5 (nI q) (nI d) ch s.1 s.2) ((1 : Int64), 0) = some (lN (prD c d)) := by
    refine lp_to (fun k => (lN (prD c k), nI k)) d (fun k hk => ?_) ?_
    · show shX2_wetParts_L5 (nI q) (nI d) ch (lN (prD c k)) (nI k) = some (.inl (lN (prD c k * (16 - c k)), nI (k + 1)))
      obtain ⟨e1, e2⟩ := hc k (by omega)
      have e3 : (nI q * (4 : Int32)) + nI k = nI (4 * q + k) := by rw [show (4 : Int32) = nI 4 from rfl, pk_mul, nI_add, Nat.mul_comm]
      have e4 : (16 : Int32) - nI (c k) = nI (16 - c k) := pk_sub (a := 16) (by omega)
      unfold shX2_wetParts_L5
      rw [if_neg (nI_ge hk (by omega)), e3, gd_nI (k := 4 * q + k) (by omega) (by decide), cl (n := 4 * q + k) (by omega), e1, e4, nI_l (by omega), lN_mul, nI_1]
      rfl
    · show shX2_wetParts_L5 (nI q) (nI d) ch (lN (prD c d)) (nI d) = some (.inr (lN (prD c d)))
      unfold shX2_wetParts_L5
      rw [if_pos (nI_le (Nat.le_refl _) (by omega))]
  unfold shX2_wetParts shX2_wetParts_j_35
  rw [key, bind_s, p16 h1 h2, lN_sub (prD_le d)]
theorem sh20 {a d : Nat} (h1 : 1 ≤ d) (h2 : d ≤ 4) (ha : a < 2 ^ 64) : lN a <<< (((20 - (4 * nI d))).toInt64 &&& 63) = lN (a * 2 ^ (20 - 4 * d)) := by
  have : d = 1 ∨ d = 2 ∨ d = 3 ∨ d = 4 := by omega
  rcases this with rfl | rfl | rfl | rfl
  · exact sh_l (k := 16) (by decide) (by decide) rfl ha
  · exact sh_l (k := 12) (by decide) (by decide) rfl ha
  · exact sh_l (k := 8) (by decide) (by decide) rfl ha
  · exact sh_l (k := 4) (by decide) (by decide) rfl ha
theorem uP_le {Wq : Nat → Nat} {c : Nat → Nat → Nat} {d : Nat} (hc : ∀ q, q < 3 → ∀ k, k < d → c q k ≤ 15) : uP Wq c d 3 + (Wq 0 + Wq 1 + Wq 2) ≤ (Wq 0 + Wq 1 + Wq 2) * 16 ^ d := by
  have one : ∀ q, q < 3 → Wq q * (16 ^ d - prD (c q) d) + Wq q ≤ Wq q * 16 ^ d := fun q hq => by
    have p := prD_pos (c := c q) d (hc q hq)
    have l := prD_le (c := c q) d
    rw [← Nat.mul_succ]
    exact Nat.mul_le_mul_left _ (by omega)
  have o0 := one 0 (by omega)
  have o1 := one 1 (by omega)
  have o2 := one 2 (by omega)
  show 0 + Wq 0 * (16 ^ d - prD (c 0) d) + Wq 1 * (16 ^ d - prD (c 1) d) + Wq 2 * (16 ^ d - prD (c 2) d) + _ ≤ _
  rw [Nat.add_mul, Nat.add_mul]
  omega
/-- the reference's long division -/
def qrF (D u : Nat) : Nat → Nat × Nat
  | 0 => (0, u)
  | i + 1 => if 2 * (qrF D u i).2 < D then (2 * (qrF D u i).1, 2 * (qrF D u i).2) else (2 * (qrF D u i).1 + 1, 2 * (qrF D u i).2 - D)
theorem qr_inv {D u : Nat} (h : u < D) : ∀ i, D * (qrF D u i).1 + (qrF D u i).2 = u * 2 ^ i ∧ (qrF D u i).2 < D
  | 0 => ⟨by show D * 0 + u = u * 1; omega, h⟩
  | i + 1 => by
    obtain ⟨h1, h2⟩ := qr_inv h i
    rw [Nat.pow_succ, ← Nat.mul_assoc, ← h1]
    show D * (if 2 * (qrF D u i).2 < D then (2 * (qrF D u i).1, 2 * (qrF D u i).2) else (2 * (qrF D u i).1 + 1, 2 * (qrF D u i).2 - D)).1 + (if 2 * (qrF D u i).2 < D then (2 * (qrF D u i).1, 2 * (qrF D u i).2) else (2 * (qrF D u i).1 + 1, 2 * (qrF D u i).2 - D)).2 = _ ∧ (if 2 * (qrF D u i).2 < D then (2 * (qrF D u i).1, 2 * (qrF D u i).2) else (2 * (qrF D u i).1 + 1, 2 * (qrF D u i).2 - D)).2 < D
    clear h1
    generalize (qrF D u i).1 = a at *
    generalize (qrF D u i).2 = b at *
    by_cases c : 2 * b < D
    · rw [if_pos c]
      refine ⟨?_, c⟩
      show D * (2 * a) + 2 * b = _
      rw [Nat.add_mul, Nat.mul_left_comm]; omega
    · rw [if_neg c]
      refine ⟨?_, by show 2 * b - D < D; omega⟩
      show D * (2 * a + 1) + (2 * b - D) = _
      rw [Nat.add_mul, Nat.mul_add, Nat.mul_left_comm]; omega
theorem qr_20 {D u : Nat} (h : u < D) : (qrF D u 20).1 = u * 1048576 / D := by
  obtain ⟨h1, h2⟩ := qr_inv h 20
  have h3 : u * 1048576 = D * (qrF D u 20).1 + (qrF D u 20).2 := h1.symm
  rw [h3, Nat.mul_add_div (by omega), Nat.div_eq_of_lt h2]; rfl
theorem pu_hopeOn {rs : Int32} {rp rc rw' rb rpi : Nat → Int32} {mr : Int32} {mp mpi mpipe mmet mch : Nat → Int32} {mall : Int32} (hK : IK rs rp rc rw' rb rpi mr mp mpi mpipe mmet mch mall) {n r d : Nat} (ers : rs = nI n) (hn : n ≤ 4) (hr : r < n) (h1 : 1 ≤ d) (h2 : d ≤ 4) :
    ∃ h : Nat, h < 1048576 ∧ shX2_hopeOn (nI r) (nI d) rp rc rw' rb = some (nI h) ∧ ∀ (v : Nat) (w : Nat → Int64) (xr : Nat → Int32), v < 8 → xr v = nI r → ∃ w', shX7_hopeOf (nI v) (nI d) mp mpi mpipe mmet mch xr w = some (nI h, w') := by
  obtain ⟨Wq, C, hb, w1, w2, w3, hC⟩ := pu_weights hK ers hn hr
  have b0 := hb 0 (by omega)
  have b1 := hb 1 (by omega)
  have b2 := hb 2 (by omega)
  rcases Nat.eq_zero_or_pos (Wq 0 + Wq 1 + Wq 2) with h0 | h0
  · refine ⟨0, by decide, ?_, fun v w xr hv hxr => ⟨wsA w Wq 3, ?_⟩⟩
    · unfold shX2_hopeOn
      rw [w2, h0, bind_s, if_neg (not_not_intro lN0.symm)]; rfl
    · unfold shX7_hopeOf
      rw [gd_nI (k := v) hv (by decide), cl (n := v) (by omega), hxr, w3 w, h0, bind_s, bind_s, if_pos lN0.symm]; rfl
  · have d16 : (16 : Nat) ^ d ≤ 65536 := Nat.le_trans (Nat.pow_le_pow_right (by decide) h2) (by decide)
    have hu := uP_le (Wq := Wq) (c := C) (d := d) (fun q hq k hk => (hC q hq k (by omega)).2.2)
    generalize hall : Wq 0 + Wq 1 + Wq 2 = all at *
    have hallb : all ≤ 1275605286912 := by omega
    have hD : all * 16 ^ d ≤ 1275605286912 * 65536 := Nat.mul_le_mul hallb d16
    generalize hup : uP Wq C d 3 = up at *
    have hlt : up < all * 16 ^ d := by omega
    have e1048 : (1048576 : Nat) = 2 ^ (20 - 4 * d) * 16 ^ d := by
      have : d = 1 ∨ d = 2 ∨ d = 3 ∨ d = 4 := by omega
      rcases this with rfl | rfl | rfl | rfl <;> decide
    have hdiv : up * 1048576 / (all * 16 ^ d) = up * 2 ^ (20 - 4 * d) / all := by
      rw [e1048, ← Nat.mul_assoc, Nat.mul_div_mul_right _ _ (Nat.pow_pos (by decide))]
    have h2d : (2 : Nat) ^ (20 - 4 * d) ≤ 65536 := Nat.le_trans (Nat.pow_le_pow_right (by decide) (by omega)) (by decide : (2 : Nat) ^ 16 ≤ 65536)
    have hupb : up * 2 ^ (20 - 4 * d) < 2 ^ 63 := by
      have : up * 2 ^ (20 - 4 * d) ≤ all * 16 ^ d * 2 ^ (20 - 4 * d) := Nat.mul_le_mul_right _ (by omega)
      rw [Nat.mul_assoc, Nat.mul_comm (16 ^ d), ← e1048] at this
      have : all * 1048576 ≤ 1275605286912 * 1048576 := Nat.mul_le_mul_right _ hallb
      omega
    refine ⟨up * 1048576 / (all * 16 ^ d), Nat.div_lt_of_lt_mul (Nat.mul_lt_mul_of_lt_of_le hlt (Nat.le_refl _) (by decide)), ?_, fun v w xr hv hxr => ⟨wsA w Wq 3, ?_⟩⟩
    · have key : lp (fun s : Int64 × Int32 => shX2_hopeOn_L20 (nI r) (nI d) rp rc rw' rb s.1 s.2) ((0 : Int64), 0) = some (lN up) := by
        rw [← hup]
        refine lp_to (fun q => (lN (uP Wq C d q), nI q)) 3 (fun q hq => ?_) ?_
        · show shX2_hopeOn_L20 (nI r) (nI d) rp rc rw' rb (lN (uP Wq C d q)) (nI q) = some (.inl (lN (uP Wq C d q + Wq q * (16 ^ d - prD (C q) d)), nI (q + 1)))
          unfold shX2_hopeOn_L20
          rw [if_neg (show ¬ (3 : Int32) ≤ nI q from nI_ge (b := 3) hq (by decide)), w1 q hq, wp_c hq h1 h2 (fun k hk => ⟨(hC q hq k hk).1, (hC q hq k hk).2.2⟩), bind_s, bind_s, lN_mul, lN_add, nI_1]
        · show shX2_hopeOn_L20 (nI r) (nI d) rp rc rw' rb (lN (uP Wq C d 3)) (nI 3) = some (.inr (lN (uP Wq C d 3)))
          unfold shX2_hopeOn_L20
          rw [if_pos (by decide)]
      unfold shX2_hopeOn shX2_hopeOn_j_52
      rw [w2, bind_s, if_pos (ne_L0 h0 (by omega)), key, bind_s, gq_t h0 (by omega), sh20 h1 h2 (by omega), pk_lDiv hupb h0 (by omega), lN_i, hdiv]
      rfl
    · have k32 : lp (fun s : Int64 × Int32 => shX7_hopeOf_L32 (nI d) s.1 s.2) ((1 : Int64), 0) = some (lN (16 ^ d)) := by
        refine lp_to (fun k => (lN (16 ^ k), nI k)) d (fun k hk => ?_) ?_
        · show shX7_hopeOf_L32 (nI d) (lN (16 ^ k)) (nI k) = some (.inl (lN (16 ^ k * 16), nI (k + 1)))
          unfold shX7_hopeOf_L32
          rw [if_neg (nI_ge hk (by omega)), show (16 : Int64) = lN 16 from by decide, lN_mul, nI_1]
        · show shX7_hopeOf_L32 (nI d) (lN (16 ^ d)) (nI d) = some (.inr (lN (16 ^ d)))
          unfold shX7_hopeOf_L32
          rw [if_pos (nI_le (Nat.le_refl _) (by omega))]
      have k67 : ∀ q, q < 3 → lp (fun s : Int64 × Int32 => shX7_hopeOf_L67 (nI d) mch (nI q) s.1 s.2) ((1 : Int64), 1) = some (lN (prD (C q) d)) := fun q hq => by
        refine lp_to (fun k => (lN (prD (C q) k), nI (k + 1))) d (fun k hk => ?_) ?_
        · show shX7_hopeOf_L67 (nI d) mch (nI q) (lN (prD (C q) k)) (nI (k + 1)) = some (.inl (lN (prD (C q) k * (16 - C q k)), nI (k + 1 + 1)))
          obtain ⟨-, e1, e2⟩ := hC q hq k (by omega)
          have e3 : (5 * nI q) + nI (k + 1) = nI (5 * q + k + 1) := by rw [show (5 : Int32) = nI 5 from rfl, pk_mul, nI_add]; rfl
          have e4 : (16 : Int32) - nI (C q k) = nI (16 - C q k) := pk_sub (a := 16) (by omega)
          unfold shX7_hopeOf_L67
          rw [if_neg (nlt (a := d) (b := k + 1) (by omega) (by omega)), e3, gd_nI (k := 5 * q + k + 1) (by omega) (by decide), cl (n := 5 * q + k + 1) (by omega), e1, e4, nI_l (by omega), lN_mul, nI_1]
          rfl
        · show shX7_hopeOf_L67 (nI d) mch (nI q) (lN (prD (C q) d)) (nI (d + 1)) = some (.inr (lN (prD (C q) d)))
          unfold shX7_hopeOf_L67
          rw [if_pos (nI_lt (by omega) (by omega))]
      have k55 : lp (fun s : Int64 × Int32 => shX7_hopeOf_L55 (nI d) mch (lN (16 ^ d)) (wsA w Wq 3) s.1 s.2) ((0 : Int64), 0) = some (lN up) := by
        rw [← hup]
        refine lp_to (fun q => (lN (uP Wq C d q), nI q)) 3 (fun q hq => ?_) ?_
        · show shX7_hopeOf_L55 (nI d) mch (lN (16 ^ d)) (wsA w Wq 3) (lN (uP Wq C d q)) (nI q) = some (.inl (lN (uP Wq C d q + Wq q * (16 ^ d - prD (C q) d)), nI (q + 1)))
          unfold shX7_hopeOf_L55 shX7_hopeOf_k55_100
          rw [if_neg (show ¬ (3 : Int32) ≤ nI q from nI_ge (b := 3) hq (by decide)), k67 q hq, bind_s, gd_nI (k := q) (by omega) (by decide), cl (n := q) (by omega), bind_s, wsA_at hq, lN_sub (prD_le d), lN_mul, lN_add, nI_1]
        · show shX7_hopeOf_L55 (nI d) mch (lN (16 ^ d)) (wsA w Wq 3) (lN (uP Wq C d 3)) (nI 3) = some (.inr (lN (uP Wq C d 3)))
          unfold shX7_hopeOf_L55
          rw [if_pos (by decide)]
      have k140 : lp (fun s : Int64 × Int32 × Int32 => shX7_hopeOf_L140 (lN all) (lN (16 ^ d)) s.1 s.2.1 s.2.2) (lN up, 0, 0) = some (nI (qrF (all * 16 ^ d) up 20).1) := by
        refine lp_to (fun i => (lN (qrF (all * 16 ^ d) up i).2, nI (qrF (all * 16 ^ d) up i).1, nI i)) 20 (fun i hi => ?_) ?_
        · show shX7_hopeOf_L140 (lN all) (lN (16 ^ d)) (lN (qrF (all * 16 ^ d) up i).2) (nI (qrF (all * 16 ^ d) up i).1) (nI i) = some (.inl (lN (qrF (all * 16 ^ d) up (i + 1)).2, nI (qrF (all * 16 ^ d) up (i + 1)).1, nI (i + 1)))
          have hr2 := (qr_inv hlt i).2
          have e2 : lN (qrF (all * 16 ^ d) up i).2 * (2 : Int64) = lN (2 * (qrF (all * 16 ^ d) up i).2) := by rw [show (2 : Int64) = lN 2 from by decide, lN_mul, Nat.mul_comm]
          have e3 : nI (qrF (all * 16 ^ d) up i).1 * (2 : Int32) = nI (2 * (qrF (all * 16 ^ d) up i).1) := by rw [show (2 : Int32) = nI 2 from rfl, pk_mul, Nat.mul_comm]
          unfold shX7_hopeOf_L140 shX7_hopeOf_k140_179
          rw [if_neg (show ¬ (20 : Int32) ≤ nI i from nI_ge (b := 20) hi (by decide)), e2, e3, lN_mul, nI_1]
          show _ = some (Sum.inl (lN (if 2 * (qrF (all * 16 ^ d) up i).2 < all * 16 ^ d then (2 * (qrF (all * 16 ^ d) up i).1, 2 * (qrF (all * 16 ^ d) up i).2) else (2 * (qrF (all * 16 ^ d) up i).1 + 1, 2 * (qrF (all * 16 ^ d) up i).2 - all * 16 ^ d)).2, nI (if 2 * (qrF (all * 16 ^ d) up i).2 < all * 16 ^ d then (2 * (qrF (all * 16 ^ d) up i).1, 2 * (qrF (all * 16 ^ d) up i).2) else (2 * (qrF (all * 16 ^ d) up i).1 + 1, 2 * (qrF (all * 16 ^ d) up i).2 - all * 16 ^ d)).1, nI (i + 1)))
          by_cases c : 2 * (qrF (all * 16 ^ d) up i).2 < all * 16 ^ d
          · rw [if_pos ((pk_lLT (by omega) (by omega)).mpr c), if_pos c]
          · rw [if_neg (fun h => c ((pk_lLT (by omega) (by omega)).mp h)), if_neg c, lN_sub (by omega), nI_1]
        · show shX7_hopeOf_L140 (lN all) (lN (16 ^ d)) _ _ (nI 20) = _
          unfold shX7_hopeOf_L140
          rw [if_pos (by decide)]
      unfold shX7_hopeOf shX7_hopeOf_j_52 shX7_hopeOf_j_124 shX7_hopeOf_j_185
      rw [gd_nI (k := v) hv (by decide), cl (n := v) (by omega), hxr, w3 w]
      simp only [bind_s]
      rw [if_neg (ne_L0 h0 (by omega)), if_pos (ne_0 h1 (by omega)), k32]
      simp only [bind_s]
      rw [k55]
      simp only [bind_s]
      rw [k140, qr_20 hlt]
      rfl
theorem pu_hope {rs : Int32} {rp rc rw' rb rpi : Nat → Int32} {mr : Int32} {mp mpi mpipe mmet mch : Nat → Int32} {mall : Int32} (hK : IK rs rp rc rw' rb rpi mr mp mpi mpipe mmet mch mall) {vs : Int32} {vr vp vb vw ve vu : Nat → Int32} {mv : Int32} {xr xp xb xw xe xu : Nat → Int32} (hV : IV rs vs vr vp vb vw ve vu mv xr xp xb xw xe xu) (a b th : Int32) (w : Nat → Int64) :
    ∃ o o', shX6_hope a b rp rc rw' rb vs vr = some o ∧ shX7_hope a b th mv mp mpi mpipe mmet mch xr w = some o' ∧ o = o'.1 := by
  obtain ⟨n, nr, hn, rfl, rfl, hnr, ers, hv⟩ := hV
  unfold shX6_hope shX7_hope
  rcases in1 a (n := n) (by omega) with ha | ⟨v, h1, h2, rfl⟩
  · rw [has4_f ha, isV_f ha]
    exact ⟨_, _, rfl, rfl, rfl⟩
  · rw [has4_t h1 h2 (by omega), isV_t h1 h2 (by omega)]
    simp only [bind_s, i10]
    obtain ⟨⟨b1, r, hr, b1'⟩, -⟩ := hv v h1 h2
    rcases in1 b (n := 4) (by decide) with hb | ⟨k, hk1, hk2, rfl⟩
    · rw [dep_f hb]
      simp only [bind_s, n00]
      by_cases c : b < 1
      · rw [if_pos c]; exact ⟨_, _, rfl, rfl, rfl⟩
      · rw [if_neg c, if_neg (show ¬ b ≤ (4 : Int32) from Int32.not_le.mpr (hb.resolve_left c))]; exact ⟨_, _, rfl, rfl, rfl⟩
    · rw [dep_t hk1 hk2]
      simp only [bind_s, n10]
      rw [if_neg (nlt1 hk1 (by omega)), if_pos (show nI k ≤ (4 : Int32) from nI_le (b := 4) hk2 (by decide))]
      obtain ⟨h, hh, e1, e2⟩ := pu_hopeOn hK ers hnr hr hk1 hk2
      obtain ⟨w', e3⟩ := e2 v w xr (by omega) (b1.symm.trans b1')
      unfold shX4_rockOf
      rw [gd_nI (k := v) (by omega) (by decide), cl (n := v) (by omega), b1', e3]
      simp only [bind_s]
      rw [e1]
      exact ⟨_, _, rfl, rfl, rfl⟩
