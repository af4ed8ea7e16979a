/-! plan: the reference's ways -/
def fe (r : Nat) : Nat := if r < 1000 then r else 9999
theorem fe_b {r : Nat} : fe r ≤ 9999 := by unfold fe; split <;> omega
theorem fe_1 {r : Nat} (h : r < 1000) : fe r = r := if_pos h
theorem fe_2 {r : Nat} (h : ¬ r < 1000) : fe r = 9999 := if_neg h
theorem fe_le {M c : Nat} (h : M ≤ 1000) : fe M ≤ fe c ↔ ¬ c < M := by
  by_cases h1 : M < 1000
  · rw [fe_1 h1]
    by_cases h2 : c < 1000
    · rw [fe_1 h2]; omega
    · rw [fe_2 h2]; omega
  · rw [fe_2 h1]
    by_cases h2 : c < 1000
    · rw [fe_1 h2]; omega
    · rw [fe_2 h2]; omega
theorem fe_eq {r c : Nat} (h : r < 1000) : fe c = fe r ↔ c = r := by
  rw [fe_1 h]
  by_cases h2 : c < 1000
  · rw [fe_1 h2]
  · rw [fe_2 h2]; omega
theorem mnv_ext {b : Nat → Bool} {c : Nat → Nat} {n : Nat} : ∀ k, (∀ v, n < v → v ≤ n + k → b v = false) → mnv b c (n + k) = mnv b c n
  | 0, _ => rfl
  | k + 1, h => by
    show (if b (n + k + 1) = true then _ else mnv b c (n + k)) = _
    rw [if_neg (by rw [h (n + k + 1) (by omega) (by omega)]; decide), mnv_ext k (fun v h1 h2 => h v h1 (by omega))]
theorem clr_b {S v u : Nat} (hS : S < 128) (h1 : 1 ≤ v) (h2 : v ≤ 7) (g1 : 1 ≤ u) (g2 : u ≤ 7) (h : tb (clr S v) u = true) : tb S u = true ∧ u ≠ v := by
  obtain ⟨v, rfl⟩ : ∃ v', v = v' + 1 := ⟨v - 1, by omega⟩
  obtain ⟨u, rfl⟩ : ∃ u', u = u' + 1 := ⟨u - 1, by omega⟩
  rw [bi8 S hS v (by omega) u (by omega)] at h
  simp at h
  exact ⟨h.1, by omega⟩
theorem clr_f {S v : Nat} (hS : S < 128) (h1 : 1 ≤ v) (h2 : v ≤ 7) : tb (clr S v) v = false := by
  cases h : tb (clr S v) v
  · rfl
  · exact absurd rfl (clr_b hS h1 h2 h1 h2 h).2
theorem clr_l {S v : Nat} (hS : S < 128) (h1 : 1 ≤ v) (h2 : v ≤ 7) (h : tb S v = true) : clr S v < S ∧ clr S v < 128 ∧ pc (clr S v) + 1 = pc S := by
  obtain ⟨v, rfl⟩ : ∃ v', v = v' + 1 := ⟨v - 1, by omega⟩
  obtain ⟨b1, b2, b3⟩ := bi7 S hS v (by omega)
  exact ⟨(b3 h).1, b1, (b3 h).2⟩
theorem rS_n {s : Nat → Nat → Nat} {n : Nat} (hn : n ≤ 7) : ∀ (m S p : Nat), S < m → S < 128 → (∀ v, 1 ≤ v → v ≤ 7 → tb S v = true → v ≤ n) → rS s 7 S p = rS s n S p
  | 0, _, _, h, _, _ => by omega
  | m + 1, S, p, h, hS, hb => by
    by_cases c : S = 0
    · rw [c, rS_0, rS_0]
    · rw [rS_s (Nat.le_refl 7) hS c, rS_s hn hS c]
      obtain ⟨k, hk⟩ : ∃ k, 7 = n + k := ⟨7 - n, by omega⟩
      have e : mnv (tb S) (fun v => s p v + rS s 7 (clr S v) v) 7 = mnv (tb S) (fun v => s p v + rS s 7 (clr S v) v) n := by
        have := mnv_ext (b := tb S) (c := fun v => s p v + rS s 7 (clr S v) v) (n := n) k (fun v h1 h2 => by
          cases ht : tb S v
          · rfl
          · exact absurd (hb v (by omega) (by omega) ht) (by omega))
        rw [← hk] at this
        exact this
      rw [e]
      refine mnv_congr n (fun v g1 g2 g3 => ?_)
      obtain ⟨l1, l2, -⟩ := clr_l hS g1 (by omega) g3
      rw [rS_n hn m (clr S v) v (by omega) l2 (fun u u1 u2 u3 => hb u u1 u2 (clr_b hS g1 (by omega) u1 u2 u3).1)]
theorem rS_f {wd mw : Nat → Int32} (hY : IY wd mw) {n : Nat} (hn : n ≤ 7) : ∀ (m S p : Nat), S < m → S < 128 → p ≤ 7 → rS (stp wd) n S p = 1000 ∨ rS (stp wd) n S p ≤ 9 * pc S
  | 0, _, _, h, _, _ => by omega
  | m + 1, S, p, h, hS, hp => by
    by_cases c : S = 0
    · rw [c, rS_0]; exact Or.inr (Nat.zero_le _)
    · rw [rS_s hn hS c]
      have hle := mnv_le (tb S) (fun v => stp wd p v + rS (stp wd) n (clr S v) v) n
      rcases mnv_at (b := tb S) (c := fun v => stp wd p v + rS (stp wd) n (clr S v) v) n with h' | ⟨v, h1, h2, h3, h4⟩
      · exact Or.inl h'
      · obtain ⟨l1, l2, l3⟩ := clr_l hS h1 (by omega) h3
        rw [h4] at hle ⊢
        rcases rS_f hY hn m (clr S v) v (by omega) l2 (by omega) with e | e
        · omega
        · rcases stp_f hY hp (v := v) (by omega) with q | q | q <;> omega
theorem fa_1 {wd mw : Nat → Int32} (hY : IY wd mw) {p v r : Nat} (hp : p ≤ 7) (hv : v ≤ 7) (hpv : p ≠ v) (hr : r = 1000 ∨ r ≤ 63) : shX7_far (mw (8 * p + v)) (nI (fe r)) = some (nI (fe (stp wd p v + r))) := by
  unfold shX7_far
  rcases stp_f hY hp hv with q | q | q
  · exact absurd q.2 hpv
  · rw [q.2.2, if_pos (by decide), q.2.1, fe_2 (by omega)]; rfl
  · rw [q.2.2.2, if_neg (nlt0 (v := stp wd p v) (by omega))]
    rcases hr with hr | hr
    · rw [fe_2 (r := r) (by omega), fe_2 (by omega), if_neg (by decide)]; rfl
    · rw [fe_1 (r := r) (by omega), fe_1 (by omega), if_pos (show nI r < (9999 : Int32) from nI_lt (b := 9999) (by omega) (by decide)), nI_add]
theorem fa_0 {r : Nat} (hr : r = 1000 ∨ r ≤ 63) : shX7_far 0 (nI (fe r)) = some (nI (fe (0 + r))) := by
  unfold shX7_far
  rw [if_neg (by decide), Nat.zero_add]
  rcases hr with hr | hr
  · rw [fe_2 (r := r) (by omega), if_neg (by decide)]; rfl
  · rw [fe_1 (r := r) (by omega), if_pos (show nI r < (9999 : Int32) from nI_lt (b := 9999) (by omega) (by decide)), show (0 : Int32) = nI 0 from rfl, nI_add, Nat.zero_add]
theorem fa_s (x y : Int32) : ∃ o, shX7_far x y = some o := by
  unfold shX7_far
  split
  · exact ⟨_, rfl⟩
  · split <;> exact ⟨_, rfl⟩
def mnS (S : Nat) (c : Nat → Nat) (k : Nat) : Nat := if S = 0 then 0 else mnv (tb S) c k
theorem mnS_s {S : Nat} {c : Nat → Nat} {k : Nat} : mnS S c (k + 1) = if tb S (k + 1) = true then (if c (k + 1) < mnS S c k then c (k + 1) else mnS S c k) else mnS S c k := by
  unfold mnS
  by_cases h : S = 0
  · subst h
    have : tb 0 (k + 1) = false := by unfold tb; exact Nat.zero_testBit _
    rw [if_pos rfl, if_pos rfl, this]; rfl
  · rw [if_neg h, if_neg h]; rfl
theorem mnS_le {S : Nat} {c : Nat → Nat} {k : Nat} : mnS S c k ≤ 1000 := by
  unfold mnS
  split
  · omega
  · exact mnv_le _ _ _
theorem mnS_r {s : Nat → Nat → Nat} {n S p : Nat} (hn : n ≤ 7) (hS : S < 128) : mnS S (fun v => s p v + rS s n (clr S v) v) n = rS s n S p := by
  unfold mnS
  by_cases h : S = 0
  · rw [if_pos h, h, rS_0]
  · rw [if_neg h, rS_s hn hS h]
theorem e8c {S v : Nat} (hS : S < 128) (h1 : 1 ≤ v) (h2 : v ≤ 7) : (8 * (nI S &&& (bI (nI v) ^^^ -1))) + nI v = nI (8 * clr S v + v) := by
  obtain ⟨v, rfl⟩ : ∃ v', v = v' + 1 := ⟨v - 1, by omega⟩
  rw [bi2 S hS v (by omega), show (8 : Int32) = nI 8 from rfl, pk_mul, nI_add]
theorem e88 (p v : Nat) : (8 * nI p) + nI v = nI (8 * p + v) := by
  rw [show (8 : Int32) = nI 8 from rfl, pk_mul, nI_add]
theorem clr_le {S v : Nat} (hS : S < 128) (h1 : 1 ≤ v) (h2 : v ≤ 7) : clr S v < 128 := by
  obtain ⟨v, rfl⟩ : ∃ v', v = v' + 1 := ⟨v - 1, by omega⟩
  exact (bi7 S hS v (by omega)).1
theorem pc_le {S : Nat} (hS : S < 128) : pc S ≤ 7 := (bi10 S hS).1
theorem rS_g {wd mw : Nat → Int32} (hY : IY wd mw) {n S p : Nat} (hn : n ≤ 7) (hS : S < 128) (hp : p ≤ 7) : rS (stp wd) n S p = 1000 ∨ rS (stp wd) n S p ≤ 63 := by
  have := pc_le hS
  rcases rS_f hY hn (S + 1) S p (by omega) hS hp with h | h
  · exact Or.inl h
  · exact Or.inr (by omega)
/-- the innermost loop -/
theorem wy_1 {wd mw : Nat → Int32} (hY : IY wd mw) {S p : Nat} (hS : S < 128) (hp : p ≤ 7) {dy : Nat → Int32} (hd : ∀ v, 1 ≤ v → v ≤ 7 → tb S v = true → dy (8 * clr S v + v) = nI (fe (rS (stp wd) 7 (clr S v) v))) :
    ∃ r, lp (fun s : Int32 × Int32 => shX7_ways_L32 mw (nI S) (nI p) dy s.1 s.2) ((if ¬ nI S = 0 then 9999 else 0), 1) = some r ∧ ((p = 0 ∨ tb S p = false) → r = nI (fe (rS (stp wd) 7 S p))) := by
  refine lp_inv (f := fun s : Int32 × Int32 => shX7_ways_L32 mw (nI S) (nI p) dy s.1 s.2) (fun i s => s.2 = nI (i + 1) ∧ ((p = 0 ∨ tb S p = false) → s.1 = nI (fe (mnS S (fun v => stp wd p v + rS (stp wd) 7 (clr S v) v) i)))) (fun r => (p = 0 ∨ tb S p = false) → r = nI (fe (rS (stp wd) 7 S p))) 7 0 _ ⟨rfl, fun _ => ?_⟩ (fun i s _ hi ⟨h1, h2⟩ => ?_) (fun s ⟨h1, h2⟩ => ?_)
  · unfold mnS
    by_cases c : S = 0
    · subst c; rfl
    · rw [if_pos (ne_0 (by omega) (by omega)), if_neg c]; rfl
  · obtain ⟨x, y⟩ := s
    dsimp only at h1 h2
    subst h1
    have hi7 : i < 7 := by omega
    have hb3 := bi3 S hS i hi7
    show ∃ s', shX7_ways_L32 mw (nI S) (nI p) dy x (nI (i + 1)) = some (.inl s') ∧ _
    unfold shX7_ways_L32 shX7_ways_k32_103 shX7_ways_k32_104
    rw [if_neg (show ¬ (7 : Int32) < nI (i + 1) from nlt (a := 7) (by omega) (by decide)), hb3, e88, e8c hS (by omega) (by omega)]
    by_cases c : tb S (i + 1) = true
    · rw [if_pos c, n10, gd_nI (k := 8 * p + (i + 1)) (by omega) (by decide), gd_nI (k := 8 * clr S (i + 1) + (i + 1)) (by have := clr_le hS (v := i + 1) (by omega) (by omega); omega) (by decide), cl (n := 8 * p + (i + 1)) (by omega), cl (n := 8 * clr S (i + 1) + (i + 1)) (by have := clr_le hS (v := i + 1) (by omega) (by omega); omega), hd (i + 1) (by omega) (by omega) c]
      simp only [bind_s]
      obtain ⟨o, ho⟩ := fa_s (mw (8 * p + (i + 1))) (nI (fe (rS (stp wd) 7 (clr S (i + 1)) (i + 1))))
      rw [ho, bind_s, nI_1]
      refine ⟨(if x ≤ o then x else o, nI (i + 1 + 1)), ?_, rfl, fun hh => ?_⟩
      · split <;> rfl
      · dsimp only
        have hpv : p ≠ i + 1 := fun e => by
          rcases hh with hh | hh
          · omega
          · rw [e, c] at hh; exact absurd hh (by decide)
        rw [fa_1 hY hp (by omega) hpv (rS_g hY (Nat.le_refl 7) (clr_le hS (by omega) (by omega)) (by omega))] at ho
        have ho' := Option.some.inj ho
        rw [← ho', h2 hh, mnS_s, if_pos c]
        have hM := mnS_le (S := S) (c := fun v => stp wd p v + rS (stp wd) 7 (clr S v) v) (k := i)
        generalize mnS S (fun v => stp wd p v + rS (stp wd) 7 (clr S v) v) i = M at *
        generalize stp wd p (i + 1) + rS (stp wd) 7 (clr S (i + 1)) (i + 1) = C
        have b1 := fe_b (r := M)
        have b2 := fe_b (r := C)
        have hf := fe_le (c := C) hM
        by_cases cc : C < M
        · rw [if_pos cc, if_neg (fun h => (hf.mp ((nI_leI (by omega) (by omega)).mp h)) cc)]
        · rw [if_neg cc, if_pos ((nI_leI (by omega) (by omega)).mpr (hf.mpr cc))]
    · rw [if_neg c, n00, nI_1]
      refine ⟨(x, nI (i + 1 + 1)), rfl, rfl, fun hh => ?_⟩
      rw [mnS_s, if_neg c]; exact h2 hh
  · obtain ⟨x, y⟩ := s
    dsimp only at h1 h2
    subst h1
    refine ⟨x, ?_, fun hh => ?_⟩
    · show shX7_ways_L32 mw (nI S) (nI p) dy x (nI (0 + 7 + 1)) = _
      unfold shX7_ways_L32
      rw [if_pos (by decide)]
    · rw [h2 hh, ← mnS_r (Nat.le_refl 7) hS]
theorem wy_2 {wd mw : Nat → Int32} (hY : IY wd mw) {S : Nat} (hS : S < 128) (dy : Nat → Int32) (hd : ∀ v, 1 ≤ v → v ≤ 7 → tb S v = true → dy (8 * clr S v + v) = nI (fe (rS (stp wd) 7 (clr S v) v))) :
    ∃ dy', lp (fun s : Int32 × (Nat → Int32) => shX7_ways_L11 mw (nI S) s.1 s.2) (0, dy) = some dy' ∧ (∀ p, p ≤ 7 → (p = 0 ∨ tb S p = false) → dy' (8 * S + p) = nI (fe (rS (stp wd) 7 S p))) ∧ (∀ j, j < 8 * S → dy' j = dy j) := by
  refine lp_inv (f := fun s : Int32 × (Nat → Int32) => shX7_ways_L11 mw (nI S) s.1 s.2) (fun i s => s.1 = nI i ∧ (∀ p, p < i → (p = 0 ∨ tb S p = false) → s.2 (8 * S + p) = nI (fe (rS (stp wd) 7 S p))) ∧ (∀ j, j < 8 * S → s.2 j = dy j)) (fun r => (∀ p, p ≤ 7 → (p = 0 ∨ tb S p = false) → r (8 * S + p) = nI (fe (rS (stp wd) 7 S p))) ∧ (∀ j, j < 8 * S → r j = dy j)) 8 0 (0, dy) ⟨rfl, fun p h => absurd h (Nat.not_lt_zero _), fun _ _ => rfl⟩ (fun i s _ hi ⟨h1, h2, h3⟩ => ?_) (fun s ⟨h1, h2, h3⟩ => ?_)
  · obtain ⟨x, ro⟩ := s
    dsimp only at h1 h2 h3
    subst h1
    obtain ⟨r, r1, r2⟩ := wy_1 hY hS (p := i) (by omega) (dy := ro) (fun v g1 g2 g3 => by
      have := (clr_l hS g1 g2 g3).1
      rw [h3 _ (by omega)]; exact hd v g1 g2 g3)
    refine ⟨(nI (i + 1), upd ro (8 * S + i) r), ?_, rfl, fun p hp hh => ?_, fun j hj => ?_⟩
    · show shX7_ways_L11 mw (nI S) (nI i) ro = _
      unfold shX7_ways_L11 shX7_ways_k11_28 shX7_ways_k11_110
      rw [if_neg (show ¬ (8 : Int32) ≤ nI i from nI_ge (b := 8) (by omega) (by decide)), e88, gd_nI (k := 8 * S + i) (by omega) (by decide), cl (n := 8 * S + i) (by omega), nI_1]
      by_cases c : nI S = 0
      · rw [if_neg (not_not_intro c)] at r1 ⊢
        rw [r1]; rfl
      · rw [if_pos c] at r1 ⊢
        rw [r1]; rfl
    · dsimp only
      by_cases c : p = i
      · subst c; rw [upd_s]; exact r2 hh
      · rw [upd_n (by omega)]; exact h2 p (by omega) hh
    · dsimp only
      rw [upd_n (by omega)]; exact h3 j hj
  · obtain ⟨x, ro⟩ := s
    dsimp only at h1 h2 h3
    subst h1
    refine ⟨ro, ?_, fun p hp => h2 p (by omega), h3⟩
    show shX7_ways_L11 mw (nI S) (nI (0 + 8)) ro = _
    unfold shX7_ways_L11
    rw [if_pos (by decide)]
theorem wy_c {wd mw : Nat → Int32} (hY : IY wd mw) (dy : Nat → Int32) :
    ∃ dy', shX7_ways mw dy = some dy' ∧ ∀ S p, S < 128 → p ≤ 7 → (p = 0 ∨ tb S p = false) → dy' (8 * S + p) = nI (fe (rS (stp wd) 7 S p)) := by
  have key := lp_inv (f := fun s : Int32 × (Nat → Int32) => shX7_ways_L2 mw s.1 s.2) (fun i s => s.1 = nI i ∧ ∀ S p, S < i → p ≤ 7 → (p = 0 ∨ tb S p = false) → s.2 (8 * S + p) = nI (fe (rS (stp wd) 7 S p))) (fun r => ∀ S p, S < 128 → p ≤ 7 → (p = 0 ∨ tb S p = false) → r (8 * S + p) = nI (fe (rS (stp wd) 7 S p))) 128 0 (0, dy) ⟨rfl, fun S p h => absurd h (Nat.not_lt_zero _)⟩ (fun i s _ hi ⟨h1, h2⟩ => by
    obtain ⟨x, ro⟩ := s
    dsimp only at h1 h2
    subst h1
    obtain ⟨ro', r1, r2, r3⟩ := wy_2 hY (S := i) (by omega) ro (fun v g1 g2 g3 => h2 _ v (clr_l (by omega) g1 g2 g3).1 g2 (Or.inr (clr_f (by omega) g1 g2)))
    refine ⟨(nI (i + 1), ro'), ?_, rfl, fun S p hS hp hh => ?_⟩
    · show shX7_ways_L2 mw (nI i) ro = _
      unfold shX7_ways_L2 shX7_ways_k2_128
      rw [if_neg (show ¬ (128 : Int32) ≤ nI i from nI_ge (b := 128) (by omega) (by decide)), r1, bind_s, nI_1]
    · dsimp only
      by_cases c : S = i
      · subst c; exact r2 p hp hh
      · rw [r3 _ (by omega)]; exact h2 S p (by omega) hp hh) (fun s ⟨h1, h2⟩ => by
    obtain ⟨x, ro⟩ := s
    dsimp only at h1 h2
    subst h1
    refine ⟨ro, ?_, fun S p hS => h2 S p (by omega)⟩
    show shX7_ways_L2 mw (nI (0 + 128)) ro = _
    unfold shX7_ways_L2
    rw [if_pos (by decide)])
  obtain ⟨r, k1, k2⟩ := key
  refine ⟨r, ?_, k2⟩
  unfold shX7_ways shX7_ways_j_134
  rw [k1, bind_s]
/-! plan: from where the rig is -/
def DY (wd : Nat → Int32) (n : Nat) (dy : Nat → Int32) : Prop := ∀ S p, S < 128 → (∀ v, 1 ≤ v → v ≤ 7 → tb S v = true → v ≤ n) → p ≤ 7 → (p = 0 ∨ tb S p = false) → dy (8 * S + p) = nI (fe (rS (stp wd) n S p))
theorem fr_c {wd mw dy : Nat → Int32} (hY : IY wd mw) {n S a v : Nat} (hn : n ≤ 7) (hD : DY wd n dy) (hS : S < 128) (hb : ∀ v, 1 ≤ v → v ≤ 7 → tb S v = true → v ≤ n) (ha : a ≤ 7) (h1 : 1 ≤ v) (h2 : v ≤ 7) : shX7_from (nI v) (nI S) (nI a) mw dy = some (nI (fe (stp wd a v + rS (stp wd) n (clr S v) v))) := by
  have hc := clr_le hS h1 h2
  have hd := hD (clr S v) v hc (fun u u1 u2 u3 => hb u u1 u2 (clr_b hS h1 h2 u1 u2 u3).1) h2 (Or.inr (clr_f hS h1 h2))
  have hg := rS_g hY (p := v) hn hc h2
  unfold shX7_from shX7_from_j_26
  rw [e88, e8c hS h1 h2, gd_nI (k := 8 * clr S v + v) (by omega) (by decide), cl (n := 8 * clr S v + v) (by omega), hd, bind_s]
  by_cases c : v = a
  · subst c
    rw [if_neg (not_not_intro rfl), fa_0 hg, bind_s]
    rw [show stp wd v v = 0 from if_pos rfl]
    rfl
  · rw [if_pos (fun h => c ((nI_eq (by omega) (by omega)).mp h)), gd_nI (k := 8 * a + v) (by omega) (by decide), cl (n := 8 * a + v) (by omega), bind_s, fa_1 hY ha h2 (fun h => c h.symm) hg, bind_s]
theorem th_c {wd mw dy : Nat → Int32} (hY : IY wd mw) {n S a : Nat} (hn : n ≤ 7) (hD : DY wd n dy) (hS : S < 128) (hb : ∀ v, 1 ≤ v → v ≤ 7 → tb S v = true → v ≤ n) (ha : a ≤ 7) : shX7_through (nI S) (nI n) (nI a) mw dy = some (nI (fe (rS (stp wd) n S a))) := by
  have key : lp (fun s : Int32 × Int32 => shX7_through_L14 (nI S) (nI n) (nI a) mw dy s.1 s.2) (nI (fe (mnS S (fun v => stp wd a v + rS (stp wd) n (clr S v) v) 0)), 1) = some (nI (fe (mnS S (fun v => stp wd a v + rS (stp wd) n (clr S v) v) n))) := by
    refine lp_to (fun i => (nI (fe (mnS S (fun v => stp wd a v + rS (stp wd) n (clr S v) v) i)), nI (i + 1))) n (fun i hi => ?_) ?_
    · show shX7_through_L14 (nI S) (nI n) (nI a) mw dy (nI (fe (mnS S (fun v => stp wd a v + rS (stp wd) n (clr S v) v) i))) (nI (i + 1)) = some (.inl (nI (fe (mnS S (fun v => stp wd a v + rS (stp wd) n (clr S v) v) (i + 1))), nI (i + 1 + 1)))
      have hb3 := bi3 S hS i (by omega)
      rw [mnS_s]
      have hM := mnS_le (S := S) (c := fun v => stp wd a v + rS (stp wd) n (clr S v) v) (k := i)
      generalize mnS S (fun v => stp wd a v + rS (stp wd) n (clr S v) v) i = M at *
      unfold shX7_through_L14 shX7_through_k14_50
      rw [if_neg (nlt (a := n) (b := i + 1) (by omega) (by omega)), hb3, fr_c hY hn hD hS hb ha (by omega) (by omega), nI_1]
      generalize stp wd a (i + 1) + rS (stp wd) n (clr S (i + 1)) (i + 1) = C
      have b1 := fe_b (r := M)
      have b2 := fe_b (r := C)
      have hf := fe_le (c := C) hM
      by_cases c : tb S (i + 1) = true
      · rw [if_pos c, if_pos c, if_neg (not_not_intro rfl), bind_s]
        by_cases cc : C < M
        · rw [if_pos cc, if_neg (fun h => (hf.mp ((nI_leI (by omega) (by omega)).mp h)) cc), bind_s]
        · rw [if_neg cc, if_pos ((nI_leI (by omega) (by omega)).mpr (hf.mpr cc))]
      · rw [if_neg c, if_neg c, if_pos (by decide)]
    · show shX7_through_L14 (nI S) (nI n) (nI a) mw dy _ (nI (n + 1)) = _
      unfold shX7_through_L14
      rw [if_pos (nI_lt (by omega) (by omega))]
  rw [mnS_r hn hS] at key
  unfold shX7_through shX7_through_j_11 shX7_through_j_56
  by_cases c : S = 0
  · subst c
    rw [if_neg (not_not_intro (show nI 0 = 0 from rfl))]
    have : (nI (fe (mnS 0 (fun v => stp wd a v + rS (stp wd) n (clr 0 v) v) 0)), (1 : Int32)) = (0, 1) := rfl
    rw [this] at key
    rw [key, bind_s]
  · have e : mnS S (fun v => stp wd a v + rS (stp wd) n (clr S v) v) 0 = 1000 := if_neg c
    rw [e] at key
    have : (nI (fe 1000), (1 : Int32)) = (9999, 1) := rfl
    rw [this] at key
    rw [if_pos (ne_0 (by omega) (by omega)), key, bind_s]
