/-! plan: loops by an invariant, bits of sets, vectors of depths -/
theorem lp_inv {τ ρ : Type} {f : τ → Option (τ ⊕ ρ)} (st : Nat → τ → Prop) (Q : ρ → Prop) : ∀ (k a : Nat) (s0 : τ), st a s0 → (∀ i s, a ≤ i → i < a + k → st i s → ∃ s', f s = some (.inl s') ∧ st (i + 1) s') → (∀ s, st (a + k) s → ∃ r, f s = some (.inr r) ∧ Q r) → ∃ r, lp f s0 = some r ∧ Q r := by
  intro k
  induction k with
  | zero =>
    intro a s0 h0 _ hf
    obtain ⟨r, h1, h2⟩ := hf s0 h0
    exact ⟨r, lp_inr h1, h2⟩
  | succ k ih =>
    intro a s0 h0 hs hf
    obtain ⟨s', h1, h2⟩ := hs a s0 (Nat.le_refl _) (by omega) h0
    obtain ⟨r, h3, h4⟩ := ih (a + 1) s' h2 (fun i s g1 g2 => hs i s (by omega) (by omega)) (fun s g => hf s (by rw [show a + (k + 1) = a + 1 + k by omega]; exact g))
    exact ⟨r, by rw [lp_inl h1]; exact h3, h4⟩
def tb (S v : Nat) : Bool := S.testBit (v - 1)
def clr (S v : Nat) : Nat := if tb S v = true then S - 2 ^ (v - 1) else S
def pc (S : Nat) : Nat := S % 2 + S / 2 % 2 + S / 4 % 2 + S / 8 % 2 + S / 16 % 2 + S / 32 % 2 + S / 64 % 2
abbrev bI (x : Int32) : Int32 := 1 <<< ((x - 1) &&& 31)
theorem bi1 : ∀ S, S < 128 → ∀ v, v < 7 → ((nI S &&& bI (nI (v + 1))) = 0 ↔ tb S (v + 1) = false) := by decide +kernel
theorem bi2 : ∀ S, S < 128 → ∀ v, v < 7 → nI S &&& (bI (nI (v + 1)) ^^^ -1) = nI (clr S (v + 1)) := by decide +kernel
theorem bi3 : ∀ S, S < 128 → ∀ v, v < 7 → ((nI S >>> ((nI (v + 1) - 1) &&& 31)) &&& 1) = (if tb S (v + 1) = true then 1 else 0) := by decide +kernel
theorem bi4 : ∀ S, S < 128 → shJ6_bitCount_0f7a4 (nI S) = some (nI (pc S)) := by decide +kernel
theorem bi5 : ∀ i, i < 7 → ∀ S, S < 2 ^ i → nI S ||| bI (nI (i + 1)) = nI (S + 2 ^ i) := by decide +kernel
def sub (S A : Nat) : Bool := Nat.land S A == S
theorem bi6 : ∀ S, S < 128 → ∀ A, A < 128 → ((nI S &&& (nI A ^^^ -1)) = 0 ↔ sub S A = true) := by decide +kernel
theorem bi7 : ∀ S, S < 128 → ∀ v, v < 7 → (clr S (v + 1) < 128 ∧ clr S (v + 1) ≤ S ∧ (tb S (v + 1) = true → clr S (v + 1) < S ∧ pc (clr S (v + 1)) + 1 = pc S)) := by decide +kernel
theorem bi8 : ∀ S, S < 128 → ∀ v, v < 7 → ∀ u, u < 7 → tb (clr S (v + 1)) (u + 1) = (tb S (u + 1) && !decide (u = v)) := by decide +kernel
theorem bi9 : ∀ S, S < 128 → ∀ A, A < 128 → (sub S A = true ↔ ∀ v, v < 7 → tb S (v + 1) = true → tb A (v + 1) = true) := by decide +kernel
theorem bi10 : ∀ S, S < 128 → pc S ≤ 7 ∧ (S = 0 ↔ ∀ v, v < 7 → tb S (v + 1) = false) ∧ (pc S = 0 ↔ S = 0) := by decide +kernel
theorem bi11 : ∀ S, S < 128 → ∀ A, A < 128 → sub S A = true → S ≤ A := by decide +kernel
def mkb (b1 b2 b3 b4 b5 b6 b7 : Bool) : Nat := b1.toNat + 2 * b2.toNat + 4 * b3.toNat + 8 * b4.toNat + 16 * b5.toNat + 32 * b6.toNat + 64 * b7.toNat
theorem mk1 : ∀ S, S < 128 → S = mkb (tb S 1) (tb S 2) (tb S 3) (tb S 4) (tb S 5) (tb S 6) (tb S 7) := by decide +kernel
theorem mk2 : ∀ b1 b2 b3 b4 b5 b6 b7 : Bool, mkb b1 b2 b3 b4 b5 b6 b7 < 128 ∧ tb (mkb b1 b2 b3 b4 b5 b6 b7) 1 = b1 ∧ tb (mkb b1 b2 b3 b4 b5 b6 b7) 2 = b2 ∧ tb (mkb b1 b2 b3 b4 b5 b6 b7) 3 = b3 ∧ tb (mkb b1 b2 b3 b4 b5 b6 b7) 4 = b4 ∧ tb (mkb b1 b2 b3 b4 b5 b6 b7) 5 = b5 ∧ tb (mkb b1 b2 b3 b4 b5 b6 b7) 6 = b6 ∧ tb (mkb b1 b2 b3 b4 b5 b6 b7) 7 = b7 := by decide +kernel
/-- the set of those with some depth -/
def mk (x : Nat → Nat) : Nat := mkb (!decide (x 1 = 0)) (!decide (x 2 = 0)) (!decide (x 3 = 0)) (!decide (x 4 = 0)) (!decide (x 5 = 0)) (!decide (x 6 = 0)) (!decide (x 7 = 0))
theorem mk_lt (x : Nat → Nat) : mk x < 128 := (mk2 _ _ _ _ _ _ _).1
theorem in7 {v : Nat} (h1 : 1 ≤ v) (h2 : v ≤ 7) : v = 1 ∨ v = 2 ∨ v = 3 ∨ v = 4 ∨ v = 5 ∨ v = 6 ∨ v = 7 := by omega
theorem mk_tb (x : Nat → Nat) {v : Nat} (h1 : 1 ≤ v) (h2 : v ≤ 7) : tb (mk x) v = !decide (x v = 0) := by
  have h := mk2 (!decide (x 1 = 0)) (!decide (x 2 = 0)) (!decide (x 3 = 0)) (!decide (x 4 = 0)) (!decide (x 5 = 0)) (!decide (x 6 = 0)) (!decide (x 7 = 0))
  rcases in7 h1 h2 with rfl | rfl | rfl | rfl | rfl | rfl | rfl
  · exact h.2.1
  · exact h.2.2.1
  · exact h.2.2.2.1
  · exact h.2.2.2.2.1
  · exact h.2.2.2.2.2.1
  · exact h.2.2.2.2.2.2.1
  · exact h.2.2.2.2.2.2.2
theorem tb_ext {S S' : Nat} (h : S < 128) (h' : S' < 128) (he : ∀ v, 1 ≤ v → v ≤ 7 → tb S v = tb S' v) : S = S' := by
  rw [mk1 S h, mk1 S' h', he 1 (by decide) (by decide), he 2 (by decide) (by decide), he 3 (by decide) (by decide), he 4 (by decide) (by decide), he 5 (by decide) (by decide), he 6 (by decide) (by decide), he 7 (by decide) (by decide)]
def sm (f : Nat → Nat) : Nat := f 1 + f 2 + f 3 + f 4 + f 5 + f 6 + f 7
def cd (x : Nat → Nat) : Nat := 15625 * x 1 + 3125 * x 2 + 625 * x 3 + 125 * x 4 + 25 * x 5 + 5 * x 6 + x 7
def wsum (g : Nat → Nat → Nat) (x : Nat → Nat) : Nat := sm (fun v => g v (x v))
def nupd (x : Nat → Nat) (k d : Nat) : Nat → Nat := fun j => if j = k then d else x j
theorem nupd_s {x : Nat → Nat} {k d : Nat} : nupd x k d k = d := if_pos rfl
theorem nupd_n {x : Nat → Nat} {k d j : Nat} (h : j ≠ k) : nupd x k d j = x j := if_neg h
theorem sm_upd {x : Nat → Nat} {v d : Nat} (h1 : 1 ≤ v) (h2 : v ≤ 7) : sm (nupd x v d) + x v = sm x + d := by
  rcases in7 h1 h2 with rfl | rfl | rfl | rfl | rfl | rfl | rfl <;> simp only [sm, nupd] <;> simp <;> omega
theorem ws_upd {g : Nat → Nat → Nat} {x : Nat → Nat} {v d : Nat} (h1 : 1 ≤ v) (h2 : v ≤ 7) : wsum g (nupd x v d) + g v (x v) = wsum g x + g v d := by
  rcases in7 h1 h2 with rfl | rfl | rfl | rfl | rfl | rfl | rfl <;> simp only [wsum, sm, nupd] <;> simp <;> omega
theorem cd_inj {x y : Nat → Nat} (hx : ∀ v, x v ≤ 4) (hy : ∀ v, y v ≤ 4) (h : cd x = cd y) : ∀ v, 1 ≤ v → v ≤ 7 → x v = y v := by
  have a1 := hx 1; have a2 := hx 2; have a3 := hx 3; have a4 := hx 4; have a5 := hx 5; have a6 := hx 6; have a7 := hx 7
  have b1 := hy 1; have b2 := hy 2; have b3 := hy 3; have b4 := hy 4; have b5 := hy 5; have b6 := hy 6; have b7 := hy 7
  unfold cd at h
  have e1 : x 1 = y 1 := by omega
  have e2 : x 2 = y 2 := by omega
  have e3 : x 3 = y 3 := by omega
  have e4 : x 4 = y 4 := by omega
  have e5 : x 5 = y 5 := by omega
  have e6 : x 6 = y 6 := by omega
  have e7 : x 7 = y 7 := by omega
  intro v h1 h2
  rcases in7 h1 h2 with rfl | rfl | rfl | rfl | rfl | rfl | rfl <;> assumption
theorem cd_lt {x : Nat → Nat} (hx : ∀ v, x v ≤ 4) : cd x < 78125 := by
  have a1 := hx 1; have a2 := hx 2; have a3 := hx 3; have a4 := hx 4; have a5 := hx 5; have a6 := hx 6; have a7 := hx 7
  unfold cd
  omega
/-- a vector of depths: the villages of A alone have one -/
def Vx (A : Nat) (x : Nat → Nat) : Prop := ∀ v, x v ≤ 4 ∧ (x v ≠ 0 → 1 ≤ v ∧ v ≤ 7 ∧ tb A v = true)
theorem Vx_sub {A : Nat} (hA : A < 128) {x : Nat → Nat} (h : Vx A x) : sub (mk x) A = true := by
  refine (bi9 (mk x) (mk_lt x) A hA).mpr (fun v hv g => ?_)
  rw [mk_tb x (by omega) (by omega)] at g
  exact ((h (v + 1)).2 (by simpa using g)).2.2
theorem Vx_le {A : Nat} {x : Nat → Nat} (h : Vx A x) (v : Nat) : x v ≤ 4 := (h v).1
theorem Vx_0 {A : Nat} : Vx A (fun _ => 0) := fun _ => ⟨Nat.zero_le 4, fun h => absurd rfl h⟩
theorem Vx_upd {A : Nat} {x : Nat → Nat} (h : Vx A x) {v d : Nat} (hd : d ≤ 4) (hv : d ≠ 0 → 1 ≤ v ∧ v ≤ 7 ∧ tb A v = true) : Vx A (nupd x v d) := fun u => by
  by_cases c : u = v
  · rw [c, nupd_s]; exact ⟨hd, hv⟩
  · rw [nupd_n c]; exact h u
theorem Vx_ext {A : Nat} {x y : Nat → Nat} (hx : Vx A x) (hy : Vx A y) (h : ∀ v, 1 ≤ v → v ≤ 7 → x v = y v) : x = y := by
  funext v
  by_cases c : 1 ≤ v ∧ v ≤ 7
  · exact h v c.1 c.2
  · have a : x v = 0 := Classical.byContradiction fun g => c ⟨((hx v).2 g).1, ((hx v).2 g).2.1⟩
    have b : y v = 0 := Classical.byContradiction fun g => c ⟨((hy v).2 g).1, ((hy v).2 g).2.1⟩
    rw [a, b]
