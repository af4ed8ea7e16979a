/-! plan: the class's ways -/
theorem mk_clr {A : Nat} {x : Nat → Nat} {v : Nat} (h1 : 1 ≤ v) (h2 : v ≤ 7) : mk (nupd x v 0) = clr (mk x) v := by
  obtain ⟨v, rfl⟩ : ∃ v', v = v' + 1 := ⟨v - 1, by omega⟩
  refine tb_ext (mk_lt _) (bi7 (mk x) (mk_lt x) v (by omega)).1 (fun u g1 g2 => ?_)
  obtain ⟨u, rfl⟩ : ∃ u', u = u' + 1 := ⟨u - 1, by omega⟩
  rw [mk_tb _ g1 g2, bi8 (mk x) (mk_lt x) v (by omega) u (by omega), mk_tb x g1 g2]
  by_cases c : u = v
  · subst c; rw [nupd_s]; simp
  · rw [nupd_n (by omega)]; simp [c]
theorem mk_set {x : Nat → Nat} {S v d : Nat} (hS : S < 128) (h1 : 1 ≤ v) (h2 : v ≤ 7) (ht : tb S v = true) (hx : mk x = clr S v) (hd : d ≠ 0) : mk (nupd x v d) = S := by
  obtain ⟨v, rfl⟩ : ∃ v', v = v' + 1 := ⟨v - 1, by omega⟩
  refine tb_ext (mk_lt _) hS (fun u g1 g2 => ?_)
  obtain ⟨u, rfl⟩ : ∃ u', u = u' + 1 := ⟨u - 1, by omega⟩
  rw [mk_tb _ g1 g2]
  by_cases c : u = v
  · subst c; rw [nupd_s, ht]; simp [hd]
  · rw [nupd_n (by omega)]
    have h := mk_tb x g1 g2
    rw [hx, bi8 S hS v (by omega) u (by omega)] at h
    simpa [c] using h.symm
theorem fo_c {S : Nat} (hS : S < 128) (h0 : S ≠ 0) : ∃ v, 1 ≤ v ∧ v ≤ 7 ∧ tb S v = true ∧ (∀ u, 1 ≤ u → u < v → tb S u = false) ∧ shX1_firstOf (nI S) = some (nI v) := by
  have hex : ∃ v, v < 7 ∧ tb S (v + 1) = true := Classical.byContradiction fun g => h0 ((bi10 S hS).2.1.mpr (fun v hv => by
    cases h : tb S (v + 1)
    · rfl
    · exact absurd ⟨v, hv, h⟩ g))
  obtain ⟨v, ⟨hv, ht⟩, hl⟩ := pk_least _ hex
  refine ⟨v + 1, by omega, by omega, ht, fun u g1 g2 => ?_, ?_⟩
  · have := hl (u - 1) (by omega)
    rw [show u - 1 + 1 = u by omega] at this
    cases h : tb S u
    · rfl
    · exact absurd ⟨by omega, h⟩ this
  · have key : lp (fun s : Int32 => shX1_firstOf_L2 (nI S) s) 1 = some (nI (v + 1)) := by
      refine lp_to (fun i => nI (i + 1)) v (fun i hi => ?_) ?_
      · show shX1_firstOf_L2 (nI S) (nI (i + 1)) = _
        unfold shX1_firstOf_L2 shX1_bit
        have hb : tb S (i + 1) = false := by
          cases h : tb S (i + 1)
          · rfl
          · exact absurd ⟨by omega, h⟩ (hl i hi)
        rw [if_neg (show ¬ (7 : Int32) ≤ nI (i + 1) from nI_ge (b := 7) (by omega) (by decide)), bind_s, if_neg (not_not_intro ((bi1 S hS i (by omega)).mpr hb)), nI_1]
      · show shX1_firstOf_L2 (nI S) (nI (v + 1)) = _
        unfold shX1_firstOf_L2 shX1_bit
        by_cases c : v = 6
        · subst c; rw [if_pos (by decide)]
        · rw [if_neg (show ¬ (7 : Int32) ≤ nI (v + 1) from nI_ge (b := 7) (by omega) (by decide)), bind_s, if_pos (fun g => by rw [(bi1 S hS v (by omega)).mp g] at ht; exact absurd ht (by decide))]
    unfold shX1_firstOf shX1_firstOf_j_23
    rw [key, bind_s]
def stp (wd : Nat → Int32) (p v : Nat) : Nat := if p = v then 0 else if wd (8 * p + v) = 0 then 1000 else (wd (8 * p + v)).toNatClampNeg
theorem stp_f {wd mw : Nat → Int32} (hY : IY wd mw) {p v : Nat} (hp : p ≤ 7) (hv : v ≤ 7) : (stp wd p v = 0 ∧ p = v) ∨ (p ≠ v ∧ stp wd p v = 1000 ∧ mw (8 * p + v) = -1) ∨ (p ≠ v ∧ 1 ≤ stp wd p v ∧ stp wd p v ≤ 9 ∧ mw (8 * p + v) = nI (stp wd p v)) := by
  unfold stp
  by_cases c : p = v
  · rw [if_pos c]; exact Or.inl ⟨rfl, c⟩
  · rw [if_neg c]
    rcases hY (8 * p + v) (by omega) with ⟨h1, h2⟩ | ⟨d, d1, d2, h1, h2⟩
    · rw [if_pos h1]; exact Or.inr (Or.inl ⟨c, rfl, h2⟩)
    · rw [if_neg (by rw [h1]; exact ne_0 d1 (by omega)), h1, cl (by omega)]; exact Or.inr (Or.inr ⟨c, d1, d2, h2⟩)
theorem stp_le {wd mw : Nat → Int32} (hY : IY wd mw) {p v : Nat} (hp : p ≤ 7) (hv : v ≤ 7) : stp wd p v ≤ 1000 := by
  rcases stp_f hY hp hv with h | h | h <;> omega
theorem sd_c {wd mw : Nat → Int32} (hY : IY wd mw) {p v : Nat} (hp : p ≤ 7) (hv : v ≤ 7) : shX1_stepDays (nI p) (nI v) wd = some (nI (stp wd p v)) := by
  have e1 : (nI p * (8 : Int32)) + nI v = nI (8 * p + v) := by rw [show (8 : Int32) = nI 8 from rfl, pk_mul, nI_add, Nat.mul_comm]
  unfold shX1_stepDays shX5_joins shX5_days stp
  rw [e1, gd_nI (k := 8 * p + v) (by omega) (by decide), cl (n := 8 * p + v) (by omega)]
  simp only [bind_s]
  by_cases c : p = v
  · rw [if_pos c, if_neg (not_not_intro (by rw [c]))]; rfl
  · rw [if_neg c, if_pos (fun g => c ((nI_eq (by omega) (by omega)).mp g))]
    rcases hY (8 * p + v) (by omega) with ⟨h1, h2⟩ | ⟨d, d1, d2, h1, h2⟩
    · rw [h1, if_pos (show (0 : Int32) ≤ 0 by decide), bind_s, i00, if_pos rfl]; rfl
    · rw [h1, if_neg (show ¬ nI d ≤ 0 from nI_nle (by omega) (by omega)), bind_s, i10, if_neg (ne_0 d1 (by omega)), cl (by omega)]
/-- the least of those of b, from 1000 -/
def mnv (b : Nat → Bool) (c : Nat → Nat) : Nat → Nat
  | 0 => 1000
  | k + 1 => if b (k + 1) = true then (if c (k + 1) < mnv b c k then c (k + 1) else mnv b c k) else mnv b c k
theorem mnv_le (b : Nat → Bool) (c : Nat → Nat) : ∀ k, mnv b c k ≤ 1000
  | 0 => Nat.le_refl _
  | k + 1 => by
    have := mnv_le b c k
    unfold mnv
    split
    · split <;> omega
    · exact this
theorem mnv_congr {b : Nat → Bool} {c c' : Nat → Nat} : ∀ k, (∀ v, 1 ≤ v → v ≤ k → b v = true → c v = c' v) → mnv b c k = mnv b c' k
  | 0, _ => rfl
  | k + 1, h => by
    unfold mnv
    rw [mnv_congr k (fun v h1 h2 h3 => h v h1 (by omega) h3)]
    by_cases cb : b (k + 1) = true
    · rw [if_pos cb, if_pos cb, h (k + 1) (by omega) (Nat.le_refl _) cb]
    · rw [if_neg cb, if_neg cb]
theorem mnv_low {b : Nat → Bool} {c : Nat → Nat} : ∀ k v, 1 ≤ v → v ≤ k → b v = true → mnv b c k ≤ c v
  | 0, v, h1, h2, _ => by omega
  | k + 1, v, h1, h2, h3 => by
    unfold mnv
    by_cases e : v = k + 1
    · subst e
      rw [if_pos h3]
      split <;> omega
    · have := mnv_low (b := b) (c := c) k v h1 (by omega) h3
      split
      · split <;> omega
      · exact this
theorem mnv_at {b : Nat → Bool} {c : Nat → Nat} : ∀ k, mnv b c k = 1000 ∨ ∃ v, 1 ≤ v ∧ v ≤ k ∧ b v = true ∧ mnv b c k = c v
  | 0 => Or.inl rfl
  | k + 1 => by
    unfold mnv
    rcases mnv_at (b := b) (c := c) k with h | ⟨v, h1, h2, h3, h4⟩
    · by_cases cb : b (k + 1) = true
      · rw [if_pos cb]
        split
        · exact Or.inr ⟨k + 1, by omega, Nat.le_refl _, cb, rfl⟩
        · exact Or.inl h
      · rw [if_neg cb]; exact Or.inl h
    · by_cases cb : b (k + 1) = true
      · rw [if_pos cb]
        split
        · exact Or.inr ⟨k + 1, by omega, Nat.le_refl _, cb, rfl⟩
        · exact Or.inr ⟨v, h1, by omega, h3, h4⟩
      · rw [if_neg cb]; exact Or.inr ⟨v, h1, by omega, h3, h4⟩
def rr (s : Nat → Nat → Nat) (n : Nat) : Nat → Nat → Nat → Nat
  | 0, _, _ => 0
  | f + 1, S, p => if S = 0 then 0 else mnv (tb S) (fun v => s p v + rr s n f (clr S v) v) n
theorem rr_eq {s : Nat → Nat → Nat} {n : Nat} (hn : n ≤ 7) : ∀ f f' S p, S < 128 → S < f → S < f' → rr s n f S p = rr s n f' S p
  | 0, _, _, _, _, h, _ => by omega
  | _, 0, _, _, _, _, h => by omega
  | f + 1, f' + 1, S, p, hS, h1, h2 => by
    unfold rr
    by_cases c : S = 0
    · rw [if_pos c, if_pos c]
    · rw [if_neg c, if_neg c]
      refine mnv_congr n (fun v g1 g2 g3 => ?_)
      obtain ⟨v, rfl⟩ : ∃ v', v = v' + 1 := ⟨v - 1, by omega⟩
      obtain ⟨b1, b2, b3⟩ := bi7 S hS v (by omega)
      rw [rr_eq hn f f' _ _ b1 (by have := (b3 g3).1; omega) (by have := (b3 g3).1; omega)]
/-- the fewest days from p to all of S -/
def rS (s : Nat → Nat → Nat) (n S p : Nat) : Nat := rr s n (S + 1) S p
theorem rS_0 (s : Nat → Nat → Nat) (n p : Nat) : rS s n 0 p = 0 := by unfold rS rr; rw [if_pos rfl]
theorem rS_s {s : Nat → Nat → Nat} {n S p : Nat} (hn : n ≤ 7) (hS : S < 128) (h0 : S ≠ 0) : rS s n S p = mnv (tb S) (fun v => s p v + rS s n (clr S v) v) n := by
  show (if S = 0 then 0 else mnv (tb S) (fun v => s p v + rr s n S (clr S v) v) n) = _
  rw [if_neg h0]
  refine mnv_congr n (fun v g1 g2 g3 => ?_)
  obtain ⟨v, rfl⟩ : ∃ v', v = v' + 1 := ⟨v - 1, by omega⟩
  obtain ⟨b1, b2, b3⟩ := bi7 S hS v (by omega)
  unfold rS
  rw [rr_eq hn S (clr S (v + 1) + 1) _ _ b1 (b3 g3).1 (by omega)]
theorem rS_le {s : Nat → Nat → Nat} {n S p : Nat} (hn : n ≤ 7) (hS : S < 128) : rS s n S p ≤ 1000 := by
  by_cases c : S = 0
  · rw [c, rS_0]; omega
  · rw [rS_s hn hS c]; exact mnv_le _ _ _
theorem rb_c {wd mw steps roads : Nat → Int32} (hY : IY wd mw) {n S p v : Nat} (hn : n ≤ 7) (hS : S < 128) (hp : p ≤ n) (h1 : 1 ≤ v) (h2 : v ≤ n) (hst : steps (8 * p + v) = nI (stp wd p v)) (hro : roads (8 * clr S v + v) = nI (rS (stp wd) n (clr S v) v)) : shX1_roadBy (nI S) (nI p) (nI v) roads steps = some (nI (stp wd p v + rS (stp wd) n (clr S v) v)) := by
  obtain ⟨v, rfl⟩ : ∃ v', v = v' + 1 := ⟨v - 1, by omega⟩
  obtain ⟨b1, b2, b3⟩ := bi7 S hS v (by omega)
  have e1 : (nI p * (8 : Int32)) + nI (v + 1) = nI (8 * p + (v + 1)) := by rw [show (8 : Int32) = nI 8 from rfl, pk_mul, nI_add, Nat.mul_comm]
  have e2 : (nI (clr S (v + 1)) * (8 : Int32)) + nI (v + 1) = nI (8 * clr S (v + 1) + (v + 1)) := by rw [show (8 : Int32) = nI 8 from rfl, pk_mul, nI_add, Nat.mul_comm]
  unfold shX1_roadBy shX1_bit
  rw [e1, gd_nI (k := 8 * p + (v + 1)) (by omega) (by decide), cl (n := 8 * p + (v + 1)) (by omega), hst]
  simp only [bind_s]
  rw [bi2 S hS v (by omega), e2, gd_nI (k := 8 * clr S (v + 1) + (v + 1)) (by omega) (by decide), cl (n := 8 * clr S (v + 1) + (v + 1)) (by omega), hro, bind_s, nI_add]
theorem sh_c {wd mw steps roads : Nat → Int32} (hY : IY wd mw) {n S p : Nat} (hn : n ≤ 7) (hS : S < 128) (h0 : S ≠ 0) (hp : p ≤ n) (hst : ∀ v, v ≤ n → steps (8 * p + v) = nI (stp wd p v)) (hro : ∀ v, 1 ≤ v → v ≤ n → tb S v = true → roads (8 * clr S v + v) = nI (rS (stp wd) n (clr S v) v)) : shX1_shortest (nI S) (nI p) (nI n) roads steps = some (nI (rS (stp wd) n S p)) := by
  have key : lp (fun s : Int32 × Int32 => shX1_shortest_L8 (nI S) (nI p) (nI n) roads steps s.1 s.2) (1000, 1) = some (nI (mnv (tb S) (fun v => stp wd p v + rS (stp wd) n (clr S v) v) n)) := by
    refine lp_to (fun i => (nI (mnv (tb S) (fun v => stp wd p v + rS (stp wd) n (clr S v) v) i), nI (i + 1))) n (fun i hi => ?_) ?_
    · show shX1_shortest_L8 (nI S) (nI p) (nI n) roads steps (nI (mnv (tb S) (fun v => stp wd p v + rS (stp wd) n (clr S v) v) i)) (nI (i + 1)) = some (.inl (nI (if tb S (i + 1) = true then (if stp wd p (i + 1) + rS (stp wd) n (clr S (i + 1)) (i + 1) < mnv (tb S) (fun v => stp wd p v + rS (stp wd) n (clr S v) v) i then stp wd p (i + 1) + rS (stp wd) n (clr S (i + 1)) (i + 1) else mnv (tb S) (fun v => stp wd p v + rS (stp wd) n (clr S v) v) i) else mnv (tb S) (fun v => stp wd p v + rS (stp wd) n (clr S v) v) i), nI (i + 1 + 1)))
      have hm := mnv_le (tb S) (fun v => stp wd p v + rS (stp wd) n (clr S v) v) i
      generalize mnv (tb S) (fun v => stp wd p v + rS (stp wd) n (clr S v) v) i = M at *
      unfold shX1_shortest_L8 shX1_shortest_k8_39 shX1_bit
      rw [if_neg (nlt (a := n) (b := i + 1) (by omega) (by omega)), bind_s, nI_1]
      by_cases c : tb S (i + 1) = true
      · have hc : ¬ (nI S &&& bI (nI (i + 1))) = 0 := fun g => by rw [(bi1 S hS i (by omega)).mp g] at c; exact absurd c (by decide)
        obtain ⟨b1, b2, b3⟩ := bi7 S hS i (by omega)
        have l1 := rS_le (s := stp wd) (p := i + 1) hn b1
        have l2 := stp_le hY (p := p) (v := i + 1) (by omega) (by omega)
        rw [if_neg hc, rb_c hY hn hS hp (by omega) (by omega) (hst (i + 1) (by omega)) (hro (i + 1) (by omega) (by omega) c), bind_s, if_pos c]
        by_cases cl' : stp wd p (i + 1) + rS (stp wd) n (clr S (i + 1)) (i + 1) < M
        · rw [if_pos (nI_lt cl' (by omega)), if_pos cl']
        · rw [if_neg (nlt (by omega) (by omega)), if_neg cl']
      · have hc : (nI S &&& bI (nI (i + 1))) = 0 := (bi1 S hS i (by omega)).mpr (by simpa using c)
        rw [if_pos hc, if_neg c]
    · show shX1_shortest_L8 (nI S) (nI p) (nI n) roads steps _ (nI (n + 1)) = _
      unfold shX1_shortest_L8
      rw [if_pos (nI_lt (by omega) (by omega))]
  unfold shX1_shortest shX1_shortest_j_45
  rw [key, bind_s, rS_s hn hS h0]
theorem ms_c {wd mw steps : Nat → Int32} (hY : IY wd mw) {n S : Nat} (hn : n ≤ 7) (hS : S < 128) (h0 : S ≠ 0) (hst : ∀ p, p ≤ n → ∀ v, v ≤ n → steps (8 * p + v) = nI (stp wd p v)) (roads : Nat → Int32) (hro : ∀ v, 1 ≤ v → v ≤ n → tb S v = true → roads (8 * clr S v + v) = nI (rS (stp wd) n (clr S v) v)) :
    ∃ ro', shX1_measureSet (nI S) (nI n) roads steps = some ro' ∧ (∀ p, p ≤ n → ro' (8 * S + p) = nI (rS (stp wd) n S p)) ∧ (∀ j, j < 8 * S → ro' j = roads j) := by
  have key := lp_inv (f := fun s : Int32 × (Nat → Int32) => shX1_measureSet_L2 (nI S) (nI n) steps s.1 s.2) (fun i s => s.1 = nI i ∧ (∀ p, p < i → s.2 (8 * S + p) = nI (rS (stp wd) n S p)) ∧ (∀ j, j < 8 * S → s.2 j = roads j)) (fun r => (∀ p, p ≤ n → r (8 * S + p) = nI (rS (stp wd) n S p)) ∧ (∀ j, j < 8 * S → r j = roads j)) (n + 1) 0 (0, roads) ⟨rfl, fun p h => absurd h (Nat.not_lt_zero _), fun _ _ => rfl⟩ (fun i s _ hi ⟨h1, h2, h3⟩ => by
    obtain ⟨x, ro⟩ := s
    dsimp only at h1 h2 h3
    subst h1
    have e1 : (nI S * (8 : Int32)) + nI i = nI (8 * S + i) := by rw [show (8 : Int32) = nI 8 from rfl, pk_mul, nI_add, Nat.mul_comm]
    have hsh := sh_c (roads := ro) hY hn hS h0 (p := i) (by omega) (hst i (by omega)) (fun v g1 g2 g3 => by
      obtain ⟨u, rfl⟩ : ∃ u, v = u + 1 := ⟨v - 1, by omega⟩
      have := ((bi7 S hS u (by omega)).2.2 g3).1
      rw [h3 _ (by omega)]; exact hro (u + 1) g1 g2 g3)
    refine ⟨(nI (i + 1), upd ro (8 * S + i) (nI (rS (stp wd) n S i))), ?_, rfl, fun p hp => ?_, fun j hj => ?_⟩
    · show shX1_measureSet_L2 (nI S) (nI n) steps (nI i) ro = _
      unfold shX1_measureSet_L2
      rw [if_neg (nlt (a := n) (b := i) (by omega) (by omega)), hsh, bind_s, e1, gd_nI (k := 8 * S + i) (by omega) (by decide), cl (by omega), bind_s, nI_1]
    · dsimp only
      by_cases c : p = i
      · rw [c, upd_s]
      · rw [upd_n (by omega)]; exact h2 p (by omega)
    · dsimp only
      rw [upd_n (by omega)]; exact h3 j hj) (fun s ⟨h1, h2, h3⟩ => by
    obtain ⟨x, ro⟩ := s
    dsimp only at h1 h2 h3
    subst h1
    refine ⟨ro, ?_, fun p hp => h2 p (by omega), h3⟩
    show shX1_measureSet_L2 (nI S) (nI n) steps (nI (0 + (n + 1))) ro = _
    unfold shX1_measureSet_L2
    rw [if_pos (nI_lt (by omega) (by omega))])
  obtain ⟨r, k1, k2, k3⟩ := key
  refine ⟨r, ?_, k2, k3⟩
  unfold shX1_measureSet shX1_measureSet_j_31
  rw [k1, bind_s]
