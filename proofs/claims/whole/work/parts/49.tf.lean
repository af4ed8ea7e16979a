/-! plan: the choice -/
def kyx (W P T C : Nat) : Nat := 226562500 * W + 7812500 * (28 - P) + 78125 * (99 - T) + (78124 - C)
def Tx (dS : Nat → Nat) (re : Nat) (x : Nat → Nat) : Nat := sm x + (dS (mk x) + re * pc (mk x))
def key (g : Nat → Nat → Nat) (dS : Nat → Nat) (re : Nat) (x : Nat → Nat) : Nat := kyx (wsum g x) (sm x) (Tx dS re x) (cd x)
def Fe (A : Nat) (dS : Nat → Nat) (re q0 t0 : Nat) (x : Nat → Nat) : Prop := Vx A x ∧ sm x ≤ q0 ∧ Tx dS re x ≤ t0
theorem df_c {d e : Nat → Int32} {x y : Nat → Nat} (hx : ∀ v, x v ≤ 4) (hy : ∀ v, y v ≤ 4) (hd : ∀ v, 1 ≤ v → v ≤ 7 → d v = nI (x v)) (he : ∀ v, 1 ≤ v → v ≤ 7 → e v = nI (y v)) : ∃ r : Int32 × (Nat → Int32), ((lp (fun s : Int32 => shX1_isBetter_L100 d e s) 1).bind (Sum.elim (fun p : Int32 => shX1_isBetter_j_124 d p e) (fun p : Unit => shX1_isBetter_j_153 e))) = some r ∧ r.2 = e ∧ ((r.1 = 1 ∧ cd y < cd x) ∨ (r.1 = 0 ∧ cd x ≤ cd y)) := by
  have body : ∀ i, 1 ≤ i → i ≤ 7 → shX1_isBetter_L100 d e (nI i) = some (if y i = x i then .inl (nI (i + 1)) else .inr (.inl (nI i))) := fun i h1 h2 => by
    unfold shX1_isBetter_L100
    rw [if_neg (show ¬ (8 : Int32) ≤ nI i from nI_ge (b := 8) (by omega) (by decide)), gd_nI (k := i) (by omega) (by decide), cl (n := i) (by omega), hd i h1 h2, he i h1 h2, nI_1]
    simp only [bind_s]
    have := hx i; have := hy i
    by_cases c : y i = x i
    · rw [if_pos c, if_pos (by rw [c])]
    · rw [if_neg c, if_neg (fun g => c ((nI_eq (by omega) (by omega)).mp g))]
  by_cases hall : ∀ v, 1 ≤ v → v ≤ 7 → y v = x v
  · have key : lp (fun s : Int32 => shX1_isBetter_L100 d e s) 1 = some (Sum.inr ()) := by
      refine lp_to (fun i => nI (i + 1)) 7 (fun i hi => ?_) ?_
      · show shX1_isBetter_L100 d e (nI (i + 1)) = _
        rw [body (i + 1) (by omega) (by omega), if_pos (hall (i + 1) (by omega) (by omega))]
      · show shX1_isBetter_L100 d e (nI 8) = _
        unfold shX1_isBetter_L100
        rw [if_pos (by decide)]
    rw [key]
    exact ⟨_, rfl, rfl, Or.inr ⟨rfl, Nat.le_of_eq (lex_eq hall)⟩⟩
  · have hex : ∃ v, v < 7 ∧ ¬ y (v + 1) = x (v + 1) := Classical.byContradiction fun h => hall (fun v h1 h2 => Classical.byContradiction fun h3 => h ⟨v - 1, by omega, by rw [show v - 1 + 1 = v by omega]; exact h3⟩)
    obtain ⟨u, ⟨u1, u2⟩, u3⟩ := pk_least _ hex
    have before : ∀ v, 1 ≤ v → v < u + 1 → y v = x v := fun v h1 h2 => Classical.byContradiction fun h => u3 (v - 1) (by omega) ⟨by omega, by rw [show v - 1 + 1 = v by omega]; exact h⟩
    have key : lp (fun s : Int32 => shX1_isBetter_L100 d e s) 1 = some (Sum.inl (nI (u + 1))) := by
      refine lp_to (fun i => nI (i + 1)) u (fun i hi => ?_) ?_
      · show shX1_isBetter_L100 d e (nI (i + 1)) = _
        rw [body (i + 1) (by omega) (by omega), if_pos (before (i + 1) (by omega) (by omega))]
      · show shX1_isBetter_L100 d e (nI (u + 1)) = _
        rw [body (u + 1) (by omega) (by omega), if_neg u2]
    rw [key]
    show ∃ r, shX1_isBetter_j_124 d (nI (u + 1)) e = some r ∧ _
    unfold shX1_isBetter_j_124
    rw [gd_nI (k := u + 1) (by omega) (by decide), cl (n := u + 1) (by omega), hd (u + 1) (by omega) (by omega), he (u + 1) (by omega) (by omega)]
    simp only [bind_s]
    have := hx (u + 1); have := hy (u + 1)
    by_cases c : x (u + 1) ≤ y (u + 1)
    · rw [if_pos (nI_le c (by omega))]
      exact ⟨_, rfl, rfl, Or.inr ⟨rfl, Nat.le_of_lt (lex_lt hx hy (by omega) (by omega) before (by omega))⟩⟩
    · rw [if_neg (nle (by omega) (by omega))]
      exact ⟨_, rfl, rfl, Or.inl ⟨rfl, lex_lt hy hx (by omega) (by omega) (fun v h1 h2 => (before v h1 h2).symm) (by omega)⟩⟩
/-- what stands as the best so far, of the pairs in D -/
def BI (A : Nat) (g : Nat → Nat → Nat) (dS : Nat → Nat) (re q0 t0 : Nat) (D : Nat → Nat → Prop) (s : Int32 × Int64 × Int32 × Int32 × Int32 × (Nat → Int32) × (Nat → Int32)) : Prop := (s.1 = 0 ∧ ∀ y, Fe A dS re q0 t0 y → ¬ D (mk y) (sm y)) ∨ (s.1 = 1 ∧ ∃ x, Fe A dS re q0 t0 x ∧ s.2.1 = lN (wsum g x) ∧ s.2.2.1 = nI (mk x) ∧ s.2.2.2.1 = nI (sm x) ∧ s.2.2.2.2.1 = nI (Tx dS re x) ∧ (∀ v, 1 ≤ v → v ≤ 7 → s.2.2.2.2.2.1 v = nI (x v)) ∧ ∀ y, Fe A dS re q0 t0 y → D (mk y) (sm y) → key g dS re y ≤ key g dS re x)
theorem BI_D {A : Nat} {g : Nat → Nat → Nat} {dS : Nat → Nat} {re q0 t0 : Nat} {D D' : Nat → Nat → Prop} {s : Int32 × Int64 × Int32 × Int32 × Int32 × (Nat → Int32) × (Nat → Int32)} (h : BI A g dS re q0 t0 D s) (hD : ∀ y, Fe A dS re q0 t0 y → D' (mk y) (sm y) → D (mk y) (sm y)) : BI A g dS re q0 t0 D' s := by
  rcases h with ⟨h1, h2⟩ | ⟨h1, x, a1, a2, a3, a4, a5, a6, a7⟩
  · exact Or.inl ⟨h1, fun y hy hd => h2 y hy (hD y hy hd)⟩
  · exact Or.inr ⟨h1, x, a1, a2, a3, a4, a5, a6, fun y hy hd => a7 y hy (hD y hy hd)⟩
theorem of_c {A S q q0 t0 re : Nat} {g : Nat → Nat → Nat} {dS : Nat → Nat} {ga wo : Nat → Int64} (hA : A < 128) (hS : S < 128) (hsub : sub S A = true) (hq : q ≤ q0) (hq0 : q0 ≤ 28) (ht0 : t0 ≤ 99) (hT : q + (dS S + re * pc S) ≤ t0) (hg : ∀ v d, g v d ≤ 10485750000) (g0 : ∀ v, g v 0 = 0) (hga : ∀ v, 1 ≤ v → v ≤ 7 → tb A v = true → ∀ d, 1 ≤ d → d ≤ 4 → ga (5 * v + d) = lN (g v d)) (hO : ∀ S', S' < 128 → sub S' A = true → ∀ q', q' ≤ q0 → OKw A g wo S' q') {D : Nat → Nat → Prop} (s : Int32 × Int64 × Int32 × Int32 × Int32 × (Nat → Int32) × (Nat → Int32)) (hB : BI A g dS re q0 t0 D s) :
    ∃ s', shX1_offer (nI S) (nI q) (nI (q + (dS S + re * pc S))) s.1 s.2.1 s.2.2.1 s.2.2.2.1 s.2.2.2.2.1 ga wo s.2.2.2.2.2.1 s.2.2.2.2.2.2 = some s' ∧ BI A g dS re q0 t0 (fun S' q' => D S' q' ∨ (S' = S ∧ q' = q)) s' := by
  obtain ⟨made, worth, set, pipes, days, depths, rivals⟩ := s
  dsimp only
  have e1 : (nI S * (29 : Int32)) + nI q = nI (29 * S + q) := by rw [show (29 : Int32) = nI 29 from rfl, pk_mul, nI_add, Nat.mul_comm]
  have Ty : ∀ y, mk y = S → sm y = q → Tx dS re y = q + (dS S + re * pc S) := fun y h1 h2 => by unfold Tx; rw [h1, h2]
  unfold shX1_offer
  rw [e1, gd_nI (k := 29 * S + q) (by omega) (by decide), cl (n := 29 * S + q) (by omega)]
  simp only [bind_s]
  rcases hO S hS hsub q hq with ⟨hw, hN⟩ | ⟨m, hw, hM⟩
  · rw [hw, if_pos rfl]
    refine ⟨_, rfl, BI_D hB (fun y hy hd => hd.elim id (fun h => absurd h.2 (hN y hy.1 h.1)))⟩
  · have hmb := MX_b hg hM
    rw [hw, if_neg (lN_m1 (by omega))]
    have hOq : ∀ S', S' < 128 → sub S' A = true → ∀ q', q' ≤ q → OKw A g wo S' q' := fun S' h1 h2 q' h3 => hO S' h1 h2 q' (by omega)
    obtain ⟨dep', x, l1, x1, x2, x3, x4, x5, x6⟩ := ld_c hA hS hsub (by omega) hg g0 hga hOq hM depths
    obtain ⟨riv', z, r1, z1, z2, z3, z4, z5, z6⟩ := ld_c hA hS hsub (by omega) hg g0 hga hOq hM rivals
    have hFx : Fe A dS re q0 t0 x := ⟨x1, by omega, by rw [Ty x x2 x3]; exact hT⟩
    have hcx := cd_lt (Vx_le x1)
    have hxz : cd x = cd z := Nat.le_antisymm (x5 z z1 z2 z3 z4) (z5 x x1 x2 x3 x4)
    have kx : key g dS re x = kyx m q (q + (dS S + re * pc S)) (cd x) := by unfold key; rw [x4, x3, Ty x x2 x3]
    have ky : ∀ y, Fe A dS re q0 t0 y → mk y = S → sm y = q → key g dS re y ≤ key g dS re x := fun y hy h1 h2 => by
      have a := hM.2 y hy.1 h1 h2
      have hcy := cd_lt (Vx_le hy.1)
      rw [kx]
      unfold key
      rw [h2, Ty y h1 h2]
      unfold kyx
      by_cases e : wsum g y = m
      · have := x5 y hy.1 h1 h2 e; omega
      · omega
    have take : ∀ riv, (∀ y, Fe A dS re q0 t0 y → D (mk y) (sm y) → key g dS re y ≤ key g dS re x) → ∃ s', (if ¬ (1 : Int32) = 0 then ((shX1_layDepths (nI S) (nI q) ga wo depths).bind fun o_68 => some ((1 : Int32), lN m, nI S, nI q, nI (q + (dS S + re * pc S)), o_68, riv)) else some (made, worth, set, pipes, days, depths, riv)) = some s' ∧ BI A g dS re q0 t0 (fun S' q' => D S' q' ∨ (S' = S ∧ q' = q)) s' := fun riv h => by
      rw [n10, l1, bind_s]
      refine ⟨_, rfl, Or.inr ⟨rfl, x, hFx, by rw [x4], by rw [x2], by rw [x3], by rw [Ty x x2 x3], x6, fun y hy hd => ?_⟩⟩
      rcases hd with hd | hd
      · exact h y hy hd
      · exact ky y hy hd.1 hd.2
    rcases hB with ⟨b1, b2⟩ | ⟨b1, B, a1, a2, a3, a4, a5, a6, a7⟩
    · dsimp only at b1
      subst b1
      unfold shX1_isBetter shX1_isBetter_j_16
      rw [if_pos rfl, if_pos rfl, bind_s]
      exact take rivals (fun y hy hd => absurd hd (b2 y hy))
    · dsimp only at b1 a2 a3 a4 a5 a6
      subst b1 a2 a3 a4 a5
      have hWb := ws_b hg B
      have hcB := cd_lt (Vx_le a1.1)
      have hPB := a1.2.1
      have hTB := a1.2.2
      have kB : key g dS re B = kyx (wsum g B) (sm B) (Tx dS re B) (cd B) := rfl
      have keep : ∀ riv, key g dS re x ≤ key g dS re B → ∃ s', (if ¬ (0 : Int32) = 0 then ((shX1_layDepths (nI S) (nI q) ga wo depths).bind fun o_68 => some ((1 : Int32), lN m, nI S, nI q, nI (q + (dS S + re * pc S)), o_68, riv)) else some ((1 : Int32), lN (wsum g B), nI (mk B), nI (sm B), nI (Tx dS re B), depths, riv)) = some s' ∧ BI A g dS re q0 t0 (fun S' q' => D S' q' ∨ (S' = S ∧ q' = q)) s' := fun riv h => by
        rw [n00]
        refine ⟨_, rfl, Or.inr ⟨rfl, B, a1, rfl, rfl, rfl, rfl, a6, fun y hy hd => ?_⟩⟩
        rcases hd with hd | hd
        · exact a7 y hy hd
        · exact Nat.le_trans (ky y hy hd.1 hd.2) h
      have more : ∀ riv, key g dS re B < key g dS re x → ∃ s', (if ¬ (1 : Int32) = 0 then ((shX1_layDepths (nI S) (nI q) ga wo depths).bind fun o_68 => some ((1 : Int32), lN m, nI S, nI q, nI (q + (dS S + re * pc S)), o_68, riv)) else some ((1 : Int32), lN (wsum g B), nI (mk B), nI (sm B), nI (Tx dS re B), depths, riv)) = some s' ∧ BI A g dS re q0 t0 (fun S' q' => D S' q' ∨ (S' = S ∧ q' = q)) s' := fun riv h => take riv (fun y hy hd => Nat.le_trans (a7 y hy hd) (Nat.le_of_lt h))
      rw [kx, kB] at keep more
      unfold shX1_isBetter shX1_isBetter_j_16
      rw [if_neg z10, if_neg z10]
      by_cases cW : m = wsum g B
      · rw [if_pos (by rw [cW])]
        by_cases cP : q = sm B
        · rw [if_pos (by rw [cP])]
          by_cases cT : q + (dS S + re * pc S) = Tx dS re B
          · rw [if_pos (by rw [cT]), r1, bind_s]
            obtain ⟨r, q1, q2, q3⟩ := df_c (d := depths) (e := riv') (Vx_le a1.1) (Vx_le z1) a6 z6
            rw [q1, bind_s, q2]
            rcases q3 with ⟨q3, q4⟩ | ⟨q3, q4⟩
            · rw [q3]; exact more _ (by unfold kyx; omega)
            · rw [q3]; exact keep _ (by unfold kyx; omega)
          · rw [if_neg (fun h => cT ((nI_eq (by omega) (by omega)).mp h))]
            by_cases c : Tx dS re B ≤ q + (dS S + re * pc S)
            · rw [if_pos (nI_le c (by omega)), bind_s]; exact keep _ (by unfold kyx; omega)
            · rw [if_neg (nle (by omega) (by omega)), bind_s]; exact more _ (by unfold kyx; omega)
        · rw [if_neg (fun h => cP ((nI_eq (by omega) (by omega)).mp h))]
          by_cases c : sm B ≤ q
          · rw [if_pos (nI_le c (by omega)), bind_s]; exact keep _ (by unfold kyx; omega)
          · rw [if_neg (nle (by omega) (by omega)), bind_s]; exact more _ (by unfold kyx; omega)
      · rw [if_neg (fun h => cW ((pk_lEQ (by omega) (by omega)).mp h))]
        by_cases c : m ≤ wsum g B
        · rw [if_pos ((pk_lLE (by omega) (by omega)).mpr c), bind_s]; exact keep _ (by unfold kyx; omega)
        · rw [if_neg (fun h => c ((pk_lLE (by omega) (by omega)).mp h)), bind_s]; exact more _ (by unfold kyx; omega)
theorem most_c {t0 q0 q idle : Nat} (h1 : t0 ≤ 99) (h2 : q0 ≤ 28) (h3 : q ≤ 100) (h4 : idle ≤ 2000) : ((if (nI t0 - nI idle) < nI q0 then (nI t0 - nI idle) else nI q0) < nI q) ↔ ¬ (q ≤ q0 ∧ q + idle ≤ t0) := by
  have s := pk_sub_toInt (a := t0) (b := idle) (by omega) (by omega)
  have e0 := tI (n := q0) (by omega)
  have e1 := tI (n := q) (by omega)
  by_cases c : (nI t0 - nI idle) < nI q0
  · rw [if_pos c, ltI, s, e1]
    rw [ltI, s, e0] at c
    omega
  · rw [if_neg c, ltI, e0, e1]
    rw [ltI, s, e0] at c
    omega
theorem ch_in {A S q0 t0 re a : Nat} {g : Nat → Nat → Nat} {dS : Nat → Nat} {ga wo : Nat → Int64} {ro : Nat → Int32} (hA : A < 128) (hS : S < 128) (hsub : sub S A = true) (hq0 : q0 ≤ 28) (ht0 : t0 ≤ 99) (hre : re ≤ 9) (ha : a ≤ 7) (hd : dS S ≤ 1000) (hro : ro (8 * S + a) = nI (dS S)) (hg : ∀ v d, g v d ≤ 10485750000) (g0 : ∀ v, g v 0 = 0) (hga : ∀ v, 1 ≤ v → v ≤ 7 → tb A v = true → ∀ d, 1 ≤ d → d ≤ 4 → ga (5 * v + d) = lN (g v d)) (hO : ∀ S', S' < 128 → sub S' A = true → ∀ q', q' ≤ q0 → OKw A g wo S' q') (s : Int32 × Int64 × Int32 × Int32 × Int32 × (Nat → Int32) × (Nat → Int32)) (hB : BI A g dS re q0 t0 (fun S' _ => S' < S) s) :
    ∃ s', lp (fun s : Int32 × Int32 × Int64 × Int32 × Int32 × Int32 × (Nat → Int32) × (Nat → Int32) => shX1_choose_L62 (nI a) (nI q0) (nI t0) (nI re) ga ro wo (nI S) (nI (pc S)) s.1 s.2.1 s.2.2.1 s.2.2.2.1 s.2.2.2.2.1 s.2.2.2.2.2.1 s.2.2.2.2.2.2.1 s.2.2.2.2.2.2.2) (0, s) = some s' ∧ BI A g dS re q0 t0 (fun S' _ => S' < S + 1) s' := by
  have hpc := (bi10 S hS).1
  have hrp : re * pc S ≤ 63 := Nat.mul_le_mul hre hpc
  have e8 : (nI S * (8 : Int32)) + nI a = nI (8 * S + a) := by rw [show (8 : Int32) = nI 8 from rfl, pk_mul, nI_add, Nat.mul_comm]
  have eid : ro ((nI S * (8 : Int32)) + nI a).toNatClampNeg + nI re * nI (pc S) = nI (dS S + re * pc S) := by rw [e8, cl (by omega), hro, pk_mul, nI_add]
  obtain ⟨K, hK1, hK2, hK3⟩ : ∃ K, K ≤ 29 ∧ (∀ q, q < K → q ≤ q0 ∧ q + (dS S + re * pc S) ≤ t0) ∧ ¬ (K ≤ q0 ∧ K + (dS S + re * pc S) ≤ t0) := by
    by_cases h : dS S + re * pc S ≤ t0
    · by_cases h2 : q0 ≤ t0 - (dS S + re * pc S)
      · exact ⟨q0 + 1, by omega, fun q hq => by omega, by omega⟩
      · exact ⟨t0 - (dS S + re * pc S) + 1, by omega, fun q hq => by omega, by omega⟩
    · exact ⟨0, by omega, fun q hq => by omega, by omega⟩
  have keyL := lp_inv (f := fun s : Int32 × Int32 × Int64 × Int32 × Int32 × Int32 × (Nat → Int32) × (Nat → Int32) => shX1_choose_L62 (nI a) (nI q0) (nI t0) (nI re) ga ro wo (nI S) (nI (pc S)) s.1 s.2.1 s.2.2.1 s.2.2.2.1 s.2.2.2.2.1 s.2.2.2.2.2.1 s.2.2.2.2.2.2.1 s.2.2.2.2.2.2.2) (fun i s => s.1 = nI i ∧ BI A g dS re q0 t0 (fun S' q' => S' < S ∨ (S' = S ∧ q' < i)) s.2) (fun r => BI A g dS re q0 t0 (fun S' q' => S' < S ∨ (S' = S ∧ q' < K)) r) K 0 (0, s) ⟨rfl, BI_D hB (fun y _ h => h.elim id (fun h => absurd h.2 (Nat.not_lt_zero _)))⟩ (fun i s _ hi ⟨h1, h2⟩ => by
    obtain ⟨x, s⟩ := s
    dsimp only at h1 h2
    subst h1
    obtain ⟨k1, k2⟩ := hK2 i (by omega)
    obtain ⟨s', o1, o2⟩ := of_c hA hS hsub k1 hq0 ht0 k2 hg g0 hga hO s h2
    refine ⟨(nI (i + 1), s'), ?_, rfl, BI_D o2 (fun y _ h => ?_)⟩
    · show shX1_choose_L62 (nI a) (nI q0) (nI t0) (nI re) ga ro wo (nI S) (nI (pc S)) (nI i) s.1 s.2.1 s.2.2.1 s.2.2.2.1 s.2.2.2.2.1 s.2.2.2.2.2.1 s.2.2.2.2.2.2 = _
      unfold shX1_choose_L62
      rw [eid, if_neg (fun h => ((most_c ht0 hq0 (by omega) (by omega)).mp h) ⟨k1, k2⟩), nI_add, o1, bind_s, nI_1]
    · rcases h with h | ⟨h1, h2⟩
      · exact Or.inl (Or.inl h)
      · by_cases c : sm y = i
        · exact Or.inr ⟨h1, c⟩
        · exact Or.inl (Or.inr ⟨h1, by omega⟩)) (fun s ⟨h1, h2⟩ => by
    obtain ⟨x, s⟩ := s
    dsimp only at h1 h2
    subst h1
    refine ⟨s, ?_, BI_D h2 (fun y _ h => by rw [Nat.zero_add]; exact h)⟩
    show shX1_choose_L62 (nI a) (nI q0) (nI t0) (nI re) ga ro wo (nI S) (nI (pc S)) (nI (0 + K)) s.1 s.2.1 s.2.2.1 s.2.2.2.1 s.2.2.2.2.1 s.2.2.2.2.2.1 s.2.2.2.2.2.2 = _
    unfold shX1_choose_L62
    rw [eid, Nat.zero_add, if_pos ((most_c ht0 hq0 (by omega) (by omega)).mpr hK3)])
  obtain ⟨r, k1, k2⟩ := keyL
  refine ⟨r, k1, BI_D k2 (fun y hy h => ?_)⟩
  by_cases c : mk y = S
  · right
    refine ⟨c, ?_⟩
    have h1 := hy.2.1
    have h2 := hy.2.2
    unfold Tx at h2
    rw [c] at h2
    exact Classical.byContradiction fun h => hK3 ⟨by omega, by omega⟩
  · left; omega
theorem ch_c {A q0 t0 re a : Nat} {g : Nat → Nat → Nat} {dS : Nat → Nat} {ga wo : Nat → Int64} {ro : Nat → Int32} (hA : A < 128) (hq0 : q0 ≤ 28) (ht0 : t0 ≤ 99) (hre : re ≤ 9) (ha : a ≤ 7) (hd : ∀ S, S < 128 → dS S ≤ 1000) (hd0 : dS 0 = 0) (hro : ∀ S, S ≤ A → sub S A = true → ro (8 * S + a) = nI (dS S)) (hg : ∀ v d, g v d ≤ 10485750000) (g0 : ∀ v, g v 0 = 0) (hga : ∀ v, 1 ≤ v → v ≤ 7 → tb A v = true → ∀ d, 1 ≤ d → d ≤ 4 → ga (5 * v + d) = lN (g v d)) (hO : ∀ S', S' < 128 → sub S' A = true → ∀ q', q' ≤ q0 → OKw A g wo S' q') (worth : Int64) (set pipes days : Int32) (depths rivals : Nat → Int32) :
    ∃ x dep riv, lp (fun s : Int32 × Int32 × Int64 × Int32 × Int32 × Int32 × (Nat → Int32) × (Nat → Int32) => shX1_choose_L8 (nI a) (nI q0) (nI t0) (nI re) (nI A) ga ro wo s.1 s.2.1 s.2.2.1 s.2.2.2.1 s.2.2.2.2.1 s.2.2.2.2.2.1 s.2.2.2.2.2.2.1 s.2.2.2.2.2.2.2) (0, 0, worth, set, pipes, days, depths, rivals) = some (1, lN (wsum g x), nI (mk x), nI (sm x), nI (Tx dS re x), dep, riv) ∧ Fe A dS re q0 t0 x ∧ (∀ y, Fe A dS re q0 t0 y → key g dS re y ≤ key g dS re x) ∧ (∀ v, 1 ≤ v → v ≤ 7 → dep v = nI (x v)) := by
  have keyL := lp_inv (f := fun s : Int32 × Int32 × Int64 × Int32 × Int32 × Int32 × (Nat → Int32) × (Nat → Int32) => shX1_choose_L8 (nI a) (nI q0) (nI t0) (nI re) (nI A) ga ro wo s.1 s.2.1 s.2.2.1 s.2.2.2.1 s.2.2.2.2.1 s.2.2.2.2.2.1 s.2.2.2.2.2.2.1 s.2.2.2.2.2.2.2) (fun i s => s.1 = nI i ∧ BI A g dS re q0 t0 (fun S' _ => S' < i) s.2) (fun r => BI A g dS re q0 t0 (fun S' _ => S' < A + 1) r) (A + 1) 0 (0, 0, worth, set, pipes, days, depths, rivals) ⟨rfl, Or.inl ⟨rfl, fun y _ h => absurd h (Nat.not_lt_zero _)⟩⟩ (fun i s _ hi ⟨h1, h2⟩ => by
    obtain ⟨x, s⟩ := s
    dsimp only at h1 h2
    subst h1
    have e8 : (nI i * (8 : Int32)) + nI a = nI (8 * i + a) := by rw [show (8 : Int32) = nI 8 from rfl, pk_mul, nI_add, Nat.mul_comm]
    by_cases c : sub i A = true
    · obtain ⟨s', o1, o2⟩ := ch_in (a := a) hA (S := i) (by omega) c hq0 ht0 hre ha (hd i (by omega)) (hro i (by omega) c) hg g0 hga hO s h2
      refine ⟨(nI (i + 1), s'), ?_, rfl, o2⟩
      show shX1_choose_L8 (nI a) (nI q0) (nI t0) (nI re) (nI A) ga ro wo (nI i) s.1 s.2.1 s.2.2.1 s.2.2.2.1 s.2.2.2.2.1 s.2.2.2.2.2.1 s.2.2.2.2.2.2 = _
      unfold shX1_choose_L8 shX1_isAdmitted shX1_choose_k8_88
      rw [if_neg (nlt (a := A) (b := i) (by omega) (by omega)), if_neg (not_not_intro ((bi6 i (by omega) A hA).mpr c)), bind_s, i10, e8, gd_nI (k := 8 * i + a) (by omega) (by decide), bind_s, bi4 i (by omega), bind_s, o1, bind_s, nI_1]
    · refine ⟨(nI (i + 1), s), ?_, rfl, BI_D h2 (fun y hy h => ?_)⟩
      · show shX1_choose_L8 (nI a) (nI q0) (nI t0) (nI re) (nI A) ga ro wo (nI i) s.1 s.2.1 s.2.2.1 s.2.2.2.1 s.2.2.2.2.1 s.2.2.2.2.2.1 s.2.2.2.2.2.2 = _
        unfold shX1_choose_L8 shX1_isAdmitted shX1_choose_k8_88
        rw [if_neg (nlt (a := A) (b := i) (by omega) (by omega)), if_pos (fun g => c ((bi6 i (by omega) A hA).mp g)), bind_s, i00, nI_1]
      · have hs := Vx_sub hA hy.1
        have : mk y ≠ i := fun e => c (by rw [← e]; exact hs)
        omega) (fun s ⟨h1, h2⟩ => by
    obtain ⟨x, s⟩ := s
    dsimp only at h1 h2
    subst h1
    refine ⟨s, ?_, BI_D h2 (fun y _ h => by omega)⟩
    show shX1_choose_L8 (nI a) (nI q0) (nI t0) (nI re) (nI A) ga ro wo (nI (0 + (A + 1))) s.1 s.2.1 s.2.2.1 s.2.2.2.1 s.2.2.2.2.1 s.2.2.2.2.2.1 s.2.2.2.2.2.2 = _
    unfold shX1_choose_L8
    rw [if_pos (nI_lt (by omega) (by omega))])
  obtain ⟨r, k1, k2⟩ := keyL
  have all : ∀ y, Fe A dS re q0 t0 y → mk y < A + 1 := fun y hy => by
    have := bi11 (mk y) (mk_lt y) A hA (Vx_sub hA hy.1)
    omega
  have h0 : Fe A dS re q0 t0 (fun _ => 0) := ⟨Vx_0, by rw [sm_0 (fun _ _ _ => rfl)]; omega, by unfold Tx; rw [sm_0 (fun _ _ _ => rfl), mk_z, hd0]; show 0 + (0 + re * 0) ≤ t0; omega⟩
  obtain ⟨made, worth', set', pipes', days', dep, riv⟩ := r
  rcases k2 with ⟨b1, b2⟩ | ⟨b1, x, a1, a2, a3, a4, a5, a6, a7⟩
  · exact absurd (all _ h0) (b2 _ h0)
  · dsimp only at b1 a2 a3 a4 a5 a6
    subst b1 a2 a3 a4 a5
    exact ⟨x, dep, riv, k1, a1, fun y hy => a7 y hy (all y hy), a6⟩
