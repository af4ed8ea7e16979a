/-! still -/
def pE (ve : Nat → Int32) (t : Nat) : Nat → Bool := fun j => decide (ve (j + 1) = nI t)
def pK (ve vu : Nat → Int32) (t : Nat) : Nat → Bool := fun j => decide (¬ (if ve (j + 1) = -1 then vu (j + 1) else ve (j + 1)) < nI t)
theorem nI_if {P : Bool} {m : Nat} : nI (m + if P = true then 1 else 0) = if P = true then nI m + 1 else nI m := by
  cases P
  · rfl
  · show nI (m + 1) = nI m + 1; rw [nI_1]
theorem en_c {n t : Nat} (hn : n ≤ 7) (ve : Nat → Int32) : shX4_endsAt (nI t) (nI n) ve = some (nI (cnt (pE ve t) n)) := by
  have key : lp (fun s : Int32 × Int32 => shX4_endsAt_L4 (nI t) (nI n) ve s.1 s.2) (0, 1) = some (nI (cnt (pE ve t) n)) := by
    refine lp_to (fun i => (nI (cnt (pE ve t) i), nI (i + 1))) n (fun i hi => ?_) ?_
    · show shX4_endsAt_L4 (nI t) (nI n) ve (nI (cnt (pE ve t) i)) (nI (i + 1)) = some (.inl (nI (cnt (pE ve t) i + if pE ve t i = true then 1 else 0), nI (i + 1 + 1)))
      unfold shX4_endsAt_L4 shX4_endsAt_k4_25
      rw [if_neg (nlt (a := n) (b := i + 1) (by omega) (by omega)), gd_nI (k := i + 1) (by omega) (by decide), cl (n := i + 1) (by omega), nI_if, nI_1]
      simp only [bind_s, pE, decide_eq_true_eq]
      by_cases c : ve (i + 1) = nI t
      · rw [if_neg (not_not_intro c), if_pos c]
      · rw [if_pos c, if_neg c]
    · show shX4_endsAt_L4 (nI t) (nI n) ve _ (nI (n + 1)) = _
      unfold shX4_endsAt_L4
      rw [if_pos (nI_lt (by omega) (by omega))]
  unfold shX4_endsAt shX4_endsAt_j_31
  rw [key, bind_s]
theorem kn_c {n t : Nat} (hn : n ≤ 7) (ve vu : Nat → Int32) : shX4_knownUpTo (nI t) (nI n) ve vu = some (nI (cnt (pK ve vu t) n)) := by
  have key : lp (fun s : Int32 × Int32 => shX4_knownUpTo_L4 (nI t) (nI n) ve vu s.1 s.2) (0, 1) = some (nI (cnt (pK ve vu t) n)) := by
    refine lp_to (fun i => (nI (cnt (pK ve vu t) i), nI (i + 1))) n (fun i hi => ?_) ?_
    · show shX4_knownUpTo_L4 (nI t) (nI n) ve vu (nI (cnt (pK ve vu t) i)) (nI (i + 1)) = some (.inl (nI (cnt (pK ve vu t) i + if pK ve vu t i = true then 1 else 0), nI (i + 1 + 1)))
      unfold shX4_knownUpTo_L4 shX4_knownUpTo_k4_37 shX4_knownUpTo_k4_48
      rw [if_neg (nlt (a := n) (b := i + 1) (by omega) (by omega)), gd_nI (k := i + 1) (by omega) (by decide), cl (n := i + 1) (by omega), nI_if, nI_1]
      simp only [bind_s, pK, decide_eq_true_eq]
      by_cases c : ve (i + 1) = -1
      · rw [if_neg (not_not_intro c), if_pos c]
        by_cases c2 : vu (i + 1) < nI t
        · rw [if_pos c2, if_neg (not_not_intro c2)]
        · rw [if_neg c2, if_pos c2]
      · rw [if_pos c, if_neg c]
        by_cases c2 : ve (i + 1) < nI t
        · rw [if_pos c2, if_neg (not_not_intro c2)]
        · rw [if_neg c2, if_pos c2]
    · show shX4_knownUpTo_L4 (nI t) (nI n) ve vu _ (nI (n + 1)) = _
      unfold shX4_knownUpTo_L4
      rw [if_pos (nI_lt (by omega) (by omega))]
  unfold shX4_knownUpTo shX4_knownUpTo_j_54
  rw [key, bind_s]
theorem ek_m {n t : Nat} (hn : n ≤ 7) (ht : 1 ≤ t) (ht2 : t ≤ 30) {vw ve vu xw xe xu : Nat → Int32} (hv : ∀ v, 1 ≤ v → v ≤ n → ((vw v = -1 ∧ xw v = 0 ∧ ve v = -1 ∧ vu v = 0) ∨ ∃ k : Nat, 1 ≤ k ∧ k ≤ 4 ∧ vw v = nI k ∧ xw v = nI k) ∧ (ve v = xe v ∧ (ve v = -1 ∨ ∃ a : Nat, 1 ≤ a ∧ a ≤ 30 ∧ ve v = nI a)) ∧ vu v = xu v) :
    lp (fun s : Int32 × Int32 × Int32 => shX7_still_L52 (nI n) xw xe xu (nI t) s.1 s.2.1 s.2.2) (0, 0, 1) = some (nI (cnt (pK ve vu t) n), nI (cnt (pE ve t) n)) := by
  refine lp_to (fun i => (nI (cnt (pK ve vu t) i), nI (cnt (pE ve t) i), nI (i + 1))) n (fun i hi => ?_) ?_
  · show shX7_still_L52 (nI n) xw xe xu (nI t) (nI (cnt (pK ve vu t) i)) (nI (cnt (pE ve t) i)) (nI (i + 1)) = some (.inl (nI (cnt (pK ve vu t) i + if pK ve vu t i = true then 1 else 0), nI (cnt (pE ve t) i + if pE ve t i = true then 1 else 0), nI (i + 1 + 1)))
    obtain ⟨h1, ⟨h2, h3⟩, h4⟩ := hv (i + 1) (by omega) (by omega)
    have z0 : ∀ m, nI m + (0 : Int32) = nI m := fun m => Int32.add_zero _
    have z1 : ∀ m, nI m + (1 : Int32) = nI (m + 1) := fun m => nI_1 m
    unfold shX7_still_L52 shX7_still_k52_110 shX7_still_k52_114 shX7_still_k52_115 shX7_still_k52_137 shX7_still_k52_140
    rw [if_neg (nlt (a := n) (b := i + 1) (by omega) (by omega)), gd_nI (k := i + 1) (by omega) (by decide), cl (n := i + 1) (by omega), nI_if, nI_if, ← h2, ← h4]
    simp only [bind_s, pK, pE, decide_eq_true_eq, z0, z1]
    have tne : ¬ nI t = -1 := ne_m1 (by omega)
    rcases h1 with ⟨w1, w2, w3, w4⟩ | ⟨k, k1, k2, w1, w2⟩
    · rw [if_neg (not_not_intro w2), if_pos w3, w3, w4, if_neg (show ¬ ¬ (0 : Int32) < nI t from not_not_intro (nI_lt (a := 0) (by omega) (by omega))), if_neg (fun h => tne h.symm)]
    · rw [if_pos (show ¬ xw (i + 1) = 0 by rw [w2]; exact ne_0 k1 (by omega))]
      rcases h3 with h3 | ⟨a, a1, a2, h3⟩
      · rw [if_pos h3, h3, if_neg (show ¬ nI t ≤ -1 by rw [leI, tI (by omega), tm1]; omega), if_neg (show ¬ (0 : Int32) ≤ -1 by decide), if_pos (show ¬ (-1 : Int32) = nI t from fun h => tne h.symm), if_neg (show ¬ (-1 : Int32) = nI t from fun h => tne h.symm)]
        by_cases c : vu (i + 1) < nI t
        · rw [if_pos c, if_neg (not_not_intro c)]
        · rw [if_neg c, if_pos c, if_pos (show ¬ (-1 : Int32) = nI t from fun h => tne h.symm)]
      · rw [if_neg (show ¬ ve (i + 1) = -1 by rw [h3]; exact ne_m1 (by omega)), h3]
        by_cases c : t ≤ a
        · rw [if_pos (nI_le c (by omega)), if_pos (show ¬ nI a < nI t from nlt c (by omega))]
          by_cases c2 : nI a = nI t
          · rw [if_neg (not_not_intro c2), if_pos c2]
          · rw [if_pos c2, if_neg c2]
        · rw [if_neg (nle (a := t) (b := a) (by omega) (by omega)), if_pos (show (0 : Int32) ≤ nI a from nI_pos' (by omega)), if_neg (not_not_intro (nI_lt (a := a) (b := t) (by omega) (by omega)))]
          have c2 : ¬ nI a = nI t := fun h => by have := (nI_eq (a := a) (b := t) (by omega) (by omega)).mp h; omega
          rw [if_pos c2, if_neg c2]
  · show shX7_still_L52 (nI n) xw xe xu (nI t) _ _ (nI (n + 1)) = _
    unfold shX7_still_L52
    rw [if_pos (nI_lt (by omega) (by omega))]
theorem cnt_mono {P Q : Nat → Bool} : ∀ n, (∀ i, i < n → P i = true → Q i = true) → cnt P n ≤ cnt Q n := by
  intro n
  induction n with
  | zero => intro _; exact Nat.le_refl 0
  | succ n ih =>
    intro h
    have h1 := ih (fun i hi => h i (by omega))
    have h2 := h n (by omega)
    show cnt P n + (if P n = true then 1 else 0) ≤ cnt Q n + (if Q n = true then 1 else 0)
    by_cases c : P n = true
    · rw [if_pos c, if_pos (h2 c)]; omega
    · rw [if_neg c]; omega
theorem cnt_sum {P Q R : Nat → Bool} : ∀ n, (∀ i, i < n → (if P i = true then 1 else 0) + (if Q i = true then 1 else 0) = (if R i = true then (1 : Nat) else 0)) → cnt P n + cnt Q n = cnt R n := by
  intro n
  induction n with
  | zero => intro _; rfl
  | succ n ih =>
    intro h
    have h1 := ih (fun i hi => h i (by omega))
    have h2 := h n (by omega)
    show cnt P n + (if P n = true then 1 else 0) + (cnt Q n + (if Q n = true then 1 else 0)) = cnt R n + (if R n = true then 1 else 0)
    omega
def pL (ve : Nat → Int32) (t : Nat) : Nat → Bool := fun j => decide (1 ≤ (ve (j + 1)).toInt ∧ (ve (j + 1)).toInt ≤ t)
theorem pL_step (ve : Nat → Int32) (n t : Nat) (ht : t < 30) : cnt (pL ve t) n + cnt (pE ve (t + 1)) n = cnt (pL ve (t + 1)) n := by
  refine cnt_sum n (fun i _ => ?_)
  simp only [pL, pE, decide_eq_true_eq]
  have e : ve (i + 1) = nI (t + 1) ↔ (ve (i + 1)).toInt = ((t + 1 : Nat) : Int) := by rw [eqI, tI (by omega)]
  by_cases c : ve (i + 1) = nI (t + 1)
  · have c' := e.mp c
    rw [if_pos c, if_neg (by omega), if_pos (by omega)]
  · have c' : ¬ (ve (i + 1)).toInt = ((t + 1 : Nat) : Int) := fun h => c (e.mpr h)
    rw [if_neg c]
    by_cases c2 : 1 ≤ (ve (i + 1)).toInt ∧ (ve (i + 1)).toInt ≤ (t : Int)
    · rw [if_pos c2, if_pos (by omega)]
    · rw [if_neg c2, if_neg (by omega)]
/-- the product of what is left and of what was known, age by age -/
def nd (ve vu : Nat → Int32) (n : Nat) : Nat → Nat × Nat
  | 0 => (1, 1)
  | t + 1 => if cnt (pE ve (t + 1)) n = 0 then nd ve vu n t else ((nd ve vu n t).1 * (cnt (pK ve vu (t + 1)) n - cnt (pE ve (t + 1)) n), (nd ve vu n t).2 * cnt (pK ve vu (t + 1)) n)
theorem ek_le (ve vu : Nat → Int32) (n t : Nat) (ht : t ≤ 30) : cnt (pE ve t) n ≤ cnt (pK ve vu t) n := by
  refine cnt_mono n (fun i _ h => ?_)
  simp only [pE, pK, decide_eq_true_eq] at h ⊢
  rw [h, if_neg (ne_m1 (by omega))]
  exact nlt (Nat.le_refl _) (by omega)
theorem nd_b (ve vu : Nat → Int32) {n : Nat} (hn : n ≤ 7) : ∀ t, t ≤ 30 → (nd ve vu n t).1 ≤ (nd ve vu n t).2 ∧ 1 ≤ (nd ve vu n t).2 ∧ (nd ve vu n t).2 ≤ 7 ^ cnt (pL ve t) n := by
  intro t
  induction t with
  | zero => intro _; exact ⟨Nat.le_refl 1, Nat.le_refl 1, Nat.pow_pos (by decide)⟩
  | succ t ih =>
    intro ht
    obtain ⟨h1, h2, h3⟩ := ih (by omega)
    have hs := pL_step ve n t (by omega)
    have hk := ek_le ve vu n (t + 1) ht
    have hk7 := cnt_le (pK ve vu (t + 1)) n
    unfold nd
    by_cases c : cnt (pE ve (t + 1)) n = 0
    · rw [if_pos c, ← hs, c]; exact ⟨h1, h2, h3⟩
    · rw [if_neg c]
      refine ⟨Nat.mul_le_mul h1 (by omega), Nat.mul_pos h2 (by omega), ?_⟩
      show (nd ve vu n t).2 * cnt (pK ve vu (t + 1)) n ≤ 7 ^ cnt (pL ve (t + 1)) n
      have : 7 ^ (cnt (pL ve t) n + 1) ≤ 7 ^ cnt (pL ve (t + 1)) n := Nat.pow_le_pow_right (by decide) (by omega)
      refine Nat.le_trans ?_ this
      rw [Nat.pow_succ]
      exact Nat.mul_le_mul h3 (by omega)
theorem nd_lt (ve vu : Nat → Int32) {n : Nat} (hn : n ≤ 7) {t : Nat} (ht : t ≤ 30) : (nd ve vu n t).2 ≤ 823543 := by
  have h := (nd_b ve vu hn t ht).2.2
  have := cnt_le (pL ve t) n
  exact Nat.le_trans h (Nat.le_trans (Nat.pow_le_pow_right (by decide) (by omega : cnt (pL ve t) n ≤ 7)) (by decide))
theorem st_cl {n a : Nat} (hn : n ≤ 7) (ha : a ≤ 30) (ve vu : Nat → Int32) : lp (fun s : Int64 × Int64 × Int32 => shX6_still_L28 (nI a) (nI n) ve vu s.1 s.2.1 s.2.2) ((1 : Int64), (1 : Int64), 1) = some (lN (nd ve vu n a).1, lN (nd ve vu n a).2) := by
  refine lp_to (fun t => (lN (nd ve vu n t).1, lN (nd ve vu n t).2, nI (t + 1))) a (fun t ht => ?_) ?_
  · show shX6_still_L28 (nI a) (nI n) ve vu (lN (nd ve vu n t).1) (lN (nd ve vu n t).2) (nI (t + 1)) = some (.inl (lN (if cnt (pE ve (t + 1)) n = 0 then nd ve vu n t else ((nd ve vu n t).1 * (cnt (pK ve vu (t + 1)) n - cnt (pE ve (t + 1)) n), (nd ve vu n t).2 * cnt (pK ve vu (t + 1)) n)).1, lN (if cnt (pE ve (t + 1)) n = 0 then nd ve vu n t else ((nd ve vu n t).1 * (cnt (pK ve vu (t + 1)) n - cnt (pE ve (t + 1)) n), (nd ve vu n t).2 * cnt (pK ve vu (t + 1)) n)).2, nI (t + 1 + 1)))
    have hk := ek_le ve vu n (t + 1) (by omega)
    have hk7 := cnt_le (pK ve vu (t + 1)) n
    unfold shX6_still_L28 shX6_still_k28_78
    rw [if_neg (nlt (a := a) (b := t + 1) (by omega) (by omega)), en_c hn, kn_c hn, bind_s, bind_s, nI_1]
    by_cases c : cnt (pE ve (t + 1)) n = 0
    · rw [if_pos c, c, if_pos (by decide)]
    · rw [if_neg c, if_neg (nI_nle (by omega) (by omega)), pk_sub hk, nI_l (by omega), nI_l (by omega), lN_mul, lN_mul]
  · show shX6_still_L28 (nI a) (nI n) ve vu _ _ (nI (a + 1)) = _
    unfold shX6_still_L28
    rw [if_pos (nI_lt (by omega) (by omega))]
theorem red_step {N D A B : Nat} (hD : 1 ≤ D) : N / Nat.gcd N D * A / Nat.gcd (N / Nat.gcd N D * A) (D / Nat.gcd N D * B) = N * A / Nat.gcd (N * A) (D * B) ∧ D / Nat.gcd N D * B / Nat.gcd (N / Nat.gcd N D * A) (D / Nat.gcd N D * B) = D * B / Nat.gcd (N * A) (D * B) := by
  have g0 : 0 < Nat.gcd N D := Nat.gcd_pos_of_pos_right N hD
  obtain ⟨p, hp⟩ := Nat.gcd_dvd_left N D
  obtain ⟨q, hq⟩ := Nat.gcd_dvd_right N D
  generalize Nat.gcd N D = g at *
  subst hp hq
  rw [Nat.mul_div_cancel_left _ g0, Nat.mul_div_cancel_left _ g0, Nat.mul_assoc, Nat.mul_assoc, Nat.gcd_mul_left, Nat.mul_div_mul_left _ _ g0, Nat.mul_div_mul_left _ _ g0]
  exact ⟨rfl, rfl⟩
theorem st_mo {n a : Nat} (hn : n ≤ 7) (ha : a ≤ 30) {vw ve vu xw xe xu : Nat → Int32} (hv : ∀ v, 1 ≤ v → v ≤ n → ((vw v = -1 ∧ xw v = 0 ∧ ve v = -1 ∧ vu v = 0) ∨ ∃ k : Nat, 1 ≤ k ∧ k ≤ 4 ∧ vw v = nI k ∧ xw v = nI k) ∧ (ve v = xe v ∧ (ve v = -1 ∨ ∃ a : Nat, 1 ≤ a ∧ a ≤ 30 ∧ ve v = nI a)) ∧ vu v = xu v) :
    lp (fun s : Int64 × Int64 × Int32 => shX7_still_L37 (nI a) (nI n) xw xe xu s.1 s.2.1 s.2.2) ((1 : Int64), (1 : Int64), 1) = some (lN ((nd ve vu n a).1 / Nat.gcd (nd ve vu n a).1 (nd ve vu n a).2), lN ((nd ve vu n a).2 / Nat.gcd (nd ve vu n a).1 (nd ve vu n a).2)) := by
  have e0 : ((1 : Int64), (1 : Int64), (1 : Int32)) = (lN ((nd ve vu n 0).1 / Nat.gcd (nd ve vu n 0).1 (nd ve vu n 0).2), lN ((nd ve vu n 0).2 / Nat.gcd (nd ve vu n 0).1 (nd ve vu n 0).2), nI (0 + 1)) := by
    show ((1 : Int64), (1 : Int64), (1 : Int32)) = (lN (1 / Nat.gcd 1 1), lN (1 / Nat.gcd 1 1), nI 1)
    rw [show 1 / Nat.gcd 1 1 = 1 from by decide]; rfl
  rw [e0]
  refine lp_to (fun t => (lN ((nd ve vu n t).1 / Nat.gcd (nd ve vu n t).1 (nd ve vu n t).2), lN ((nd ve vu n t).2 / Nat.gcd (nd ve vu n t).1 (nd ve vu n t).2), nI (t + 1))) a (fun t ht => ?_) ?_
  · show shX7_still_L37 (nI a) (nI n) xw xe xu (lN ((nd ve vu n t).1 / Nat.gcd (nd ve vu n t).1 (nd ve vu n t).2)) (lN ((nd ve vu n t).2 / Nat.gcd (nd ve vu n t).1 (nd ve vu n t).2)) (nI (t + 1)) = some (.inl (lN ((nd ve vu n (t + 1)).1 / Nat.gcd (nd ve vu n (t + 1)).1 (nd ve vu n (t + 1)).2), lN ((nd ve vu n (t + 1)).2 / Nat.gcd (nd ve vu n (t + 1)).1 (nd ve vu n (t + 1)).2), nI (t + 1 + 1)))
    have hk := ek_le ve vu n (t + 1) (by omega)
    have hk7 := cnt_le (pK ve vu (t + 1)) n
    obtain ⟨b1, b2, -⟩ := nd_b ve vu hn t (by omega)
    have b3 := nd_lt ve vu hn (t := t) (by omega)
    have e : nd ve vu n (t + 1) = if cnt (pE ve (t + 1)) n = 0 then nd ve vu n t else ((nd ve vu n t).1 * (cnt (pK ve vu (t + 1)) n - cnt (pE ve (t + 1)) n), (nd ve vu n t).2 * cnt (pK ve vu (t + 1)) n) := rfl
    rw [e]
    unfold shX7_still_L37 shX7_still_k37_146 shX7_still_k37_191
    rw [if_neg (nlt (a := a) (b := t + 1) (by omega) (by omega)), ek_m hn (by omega) (by omega) hv, bind_s, nI_1]
    dsimp only
    by_cases c : cnt (pE ve (t + 1)) n = 0
    · rw [if_pos c, c, if_neg (by decide)]
    · rw [if_neg c, if_pos (nI_ne0 (by omega) (by omega)), pk_sub hk, nI_l (by omega), nI_l (by omega), lN_mul, lN_mul]
      dsimp only
      obtain ⟨r1, r2⟩ := red_step (N := (nd ve vu n t).1) (D := (nd ve vu n t).2) (A := cnt (pK ve vu (t + 1)) n - cnt (pE ve (t + 1)) n) (B := cnt (pK ve vu (t + 1)) n) b2
      rw [← r1, ← r2]
      have g0 : 0 < Nat.gcd (nd ve vu n t).1 (nd ve vu n t).2 := Nat.gcd_pos_of_pos_right _ b2
      have q1 : (nd ve vu n t).1 / Nat.gcd (nd ve vu n t).1 (nd ve vu n t).2 ≤ 823543 := Nat.le_trans (Nat.div_le_self _ _) (by omega)
      have q2 : (nd ve vu n t).2 / Nat.gcd (nd ve vu n t).1 (nd ve vu n t).2 ≤ 823543 := Nat.le_trans (Nat.div_le_self _ _) (by omega)
      have q3 : 0 < (nd ve vu n t).2 / Nat.gcd (nd ve vu n t).1 (nd ve vu n t).2 := Nat.div_pos (Nat.gcd_le_right _ b2) g0
      generalize (nd ve vu n t).1 / Nat.gcd (nd ve vu n t).1 (nd ve vu n t).2 = X at *
      generalize (nd ve vu n t).2 / Nat.gcd (nd ve vu n t).1 (nd ve vu n t).2 = Y at *
      generalize cnt (pK ve vu (t + 1)) n = K at *
      generalize cnt (pE ve (t + 1)) n = E at *
      have x1 : X * (K - E) ≤ 823543 * 7 := Nat.mul_le_mul q1 (by omega)
      have y1 : Y * K ≤ 823543 * 7 := Nat.mul_le_mul q2 (by omega)
      have y0 : 0 < Y * K := Nat.mul_pos q3 (by omega)
      have gg0 : 0 < Nat.gcd (X * (K - E)) (Y * K) := Nat.gcd_pos_of_pos_right _ y0
      have gg1 : Nat.gcd (X * (K - E)) (Y * K) < 2 ^ 63 := Nat.lt_of_le_of_lt (Nat.gcd_le_right _ y0) (by omega)
      rw [dv_m (by omega) (by omega), bind_s, gq_t gg0 gg1, pk_lDiv (by omega) gg0 gg1, pk_lDiv (by omega) gg0 gg1]
      rfl
  · show shX7_still_L37 (nI a) (nI n) xw xe xu _ _ (nI (a + 1)) = _
    unfold shX7_still_L37
    rw [if_pos (nI_lt (by omega) (by omega))]
theorem pu_still {rs vs : Int32} {vr vp vb vw ve vu : Nat → Int32} {mv : Int32} {xr xp xb xw xe xu : Nat → Int32} (hV : IV rs vs vr vp vb vw ve vu mv xr xp xb xw xe xu) (a b th : Int32) :
    ∃ o o', shX6_still a b vs ve vu = some o ∧ shX7_still a b th mv xw xe xu = some o' ∧ o = o'.1 := by
  obtain ⟨n, nr, hn, rfl, rfl, hnr, ers, hv⟩ := hV
  unfold shX6_still shX7_still
  rcases in1 a (n := 30) (by decide) with ha | ⟨t, h1, h2, rfl⟩
  · rw [age_f ha]
    simp only [bind_s, i00]
    by_cases c : a < 1
    · rw [if_pos c]; exact ⟨_, _, rfl, rfl, rfl⟩
    · rw [if_neg c, if_pos (show (30 : Int32) < a from ha.resolve_left c)]; exact ⟨_, _, rfl, rfl, rfl⟩
  · rw [age_t h1 h2]
    simp only [bind_s, i10]
    rw [if_neg (nlt1 h1 (by omega)), if_neg (show ¬ (30 : Int32) < nI t from nlt (a := 30) h2 (by decide))]
    by_cases c0 : b < 0
    · rw [if_pos c0, if_pos c0]; exact ⟨_, _, rfl, rfl, rfl⟩
    · rw [if_neg c0, if_neg c0]
      by_cases c1 : b ≤ 1
      · rw [if_pos c1, if_pos c1]
        have hv' : ∀ v, 1 ≤ v → v ≤ n → ((vw v = -1 ∧ xw v = 0 ∧ ve v = -1 ∧ vu v = 0) ∨ ∃ k : Nat, 1 ≤ k ∧ k ≤ 4 ∧ vw v = nI k ∧ xw v = nI k) ∧ (ve v = xe v ∧ (ve v = -1 ∨ ∃ a : Nat, 1 ≤ a ∧ a ≤ 30 ∧ ve v = nI a)) ∧ vu v = xu v := fun v g1 g2 => ⟨(hv v g1 g2).2.2.2.1, (hv v g1 g2).2.2.2.2.1, (hv v g1 g2).2.2.2.2.2.1⟩
        rw [st_cl hn h2, st_mo hn h2 hv', bind_s, bind_s]
        obtain ⟨b1, b2, -⟩ := nd_b ve vu hn t h2
        have b3 := nd_lt ve vu hn (t := t) h2
        unfold shX6_still_j_84 shX7_still_j_197
        rw [lt_c (by omega) (by omega) b2, bind_s]
        by_cases c : ¬ b = 0
        · rw [if_pos c, if_pos c]; exact ⟨_, _, rfl, rfl, rfl⟩
        · rw [if_neg c, if_neg c]; exact ⟨_, _, rfl, rfl, rfl⟩
      · rw [if_neg c1, if_neg c1]; exact ⟨_, _, rfl, rfl, rfl⟩
