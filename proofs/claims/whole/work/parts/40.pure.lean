/-! numbers -/
theorem tI {n : Nat} (h : n < 2 ^ 31) : (nI n).toInt = (n : Int) := nI_toInt h
theorem ltI {x y : Int32} : x < y ↔ x.toInt < y.toInt := Int32.lt_iff_toInt_lt
theorem leI {x y : Int32} : x ≤ y ↔ x.toInt ≤ y.toInt := Int32.le_iff_toInt_le
theorem eqI {x y : Int32} : x = y ↔ x.toInt = y.toInt := Int32.toInt_inj.symm
theorem tm1 : (-1 : Int32).toInt = -1 := by decide
theorem nI_ofInt {x : Int32} {n : Nat} (h : x.toInt = n) (hn : n < 2 ^ 31) : x = nI n := eqI.mpr (by rw [h, tI hn])
theorem in1 (x : Int32) {n : Nat} (hn : n < 2 ^ 31) : (x < 1 ∨ nI n < x) ∨ ∃ v : Nat, 1 ≤ v ∧ v ≤ n ∧ x = nI v := by
  by_cases h1 : x < 1
  · exact Or.inl (Or.inl h1)
  · by_cases h2 : nI n < x
    · exact Or.inl (Or.inr h2)
    · rw [ltI, show (1 : Int32).toInt = 1 from rfl] at h1
      rw [ltI, tI hn] at h2
      exact Or.inr ⟨x.toInt.toNat, by omega, by omega, nI_ofInt (by omega) (by omega)⟩
theorem in0 (x : Int32) {n : Nat} (hn : n < 2 ^ 31) : (x < 0 ∨ nI n < x) ∨ ∃ v : Nat, v ≤ n ∧ x = nI v := by
  by_cases h1 : x < 0
  · exact Or.inl (Or.inl h1)
  · by_cases h2 : nI n < x
    · exact Or.inl (Or.inr h2)
    · rw [ltI, show (0 : Int32).toInt = 0 from rfl] at h1
      rw [ltI, tI hn] at h2
      exact Or.inr ⟨x.toInt.toNat, by omega, nI_ofInt (by omega) (by omega)⟩
theorem in0' (x : Int32) {n : Nat} (hn : n < 2 ^ 31) : (x < 0 ∨ nI n ≤ x) ∨ ∃ v : Nat, v < n ∧ x = nI v := by
  by_cases h1 : x < 0
  · exact Or.inl (Or.inl h1)
  · by_cases h2 : nI n ≤ x
    · exact Or.inl (Or.inr h2)
    · rw [ltI, show (0 : Int32).toInt = 0 from rfl] at h1
      rw [leI, tI hn] at h2
      exact Or.inr ⟨x.toInt.toNat, by omega, nI_ofInt (by omega) (by omega)⟩
theorem nlt1 {v : Nat} (h1 : 1 ≤ v) (h : v < 2 ^ 31) : ¬ nI v < 1 := by rw [ltI, tI h, show (1 : Int32).toInt = 1 from rfl]; omega
theorem nlt0 {v : Nat} (h : v < 2 ^ 31) : ¬ nI v < 0 := nI_pos h
theorem nlt {a b : Nat} (h : b ≤ a) (ha : a < 2 ^ 31) : ¬ nI a < nI b := nI_nlt h ha
theorem nle {a b : Nat} (h : b < a) (ha : a < 2 ^ 31) : ¬ nI a ≤ nI b := nI_ge h ha
theorem cl {n : Nat} (h : n < 2 ^ 31) : (nI n).toNatClampNeg = n := nI_clamp h
theorem bind_s {α β : Type} {a : α} {f : α → Option β} : (some a).bind f = f a := rfl
theorem z10 : ¬ (1 : Int32) = 0 := by decide
theorem i10 {α : Type} {a b : α} [Decidable ((1 : Int32) = 0)] : (if (1 : Int32) = 0 then a else b) = b := if_neg z10
theorem i00 {α : Type} {a b : α} [Decidable ((0 : Int32) = 0)] : (if (0 : Int32) = 0 then a else b) = a := if_pos rfl
theorem n10 {α : Type} {a b : α} [Decidable (¬ (1 : Int32) = 0)] : (if ¬ (1 : Int32) = 0 then a else b) = a := if_pos z10
theorem n00 {α : Type} {a b : α} [Decidable (¬ (0 : Int32) = 0)] : (if ¬ (0 : Int32) = 0 then a else b) = b := if_neg (fun h => h rfl)
/-! the loops' two rows, side by side -/
theorem upd_s {f : Nat → Int32} {k : Nat} {x : Int32} : upd f k x k = x := by simp [upd]
theorem upd_n {f : Nat → Int32} {k j : Nat} {x : Int32} (h : j ≠ k) : upd f k x j = f j := by simp [upd, h]
/-! small methods -/
theorem has4_t {v n : Nat} (h1 : 1 ≤ v) (h2 : v ≤ n) (hn : n < 2 ^ 31) : shX4_has (nI v) (nI n) = some 1 := by
  unfold shX4_has
  rw [if_neg (nlt1 h1 (by omega)), if_neg (nlt h2 hn)]
theorem has4_f {x : Int32} {n : Nat} (h : x < 1 ∨ nI n < x) : shX4_has x (nI n) = some 0 := by
  unfold shX4_has
  by_cases c : x < 1
  · rw [if_pos c]
  · rw [if_neg c, if_pos (h.resolve_left c)]
theorem isV_t {v n : Nat} (h1 : 1 ≤ v) (h2 : v ≤ n) (hn : n < 2 ^ 31) : shX7_isVillage (nI v) (nI n) = some 1 := by
  unfold shX7_isVillage
  rw [if_neg (nlt1 h1 (by omega)), if_neg (nlt h2 hn)]
theorem isV_f {x : Int32} {n : Nat} (h : x < 1 ∨ nI n < x) : shX7_isVillage x (nI n) = some 0 := by
  unfold shX7_isVillage
  by_cases c : x < 1
  · rw [if_pos c]
  · rw [if_neg c, if_pos (h.resolve_left c)]
theorem place_t {v n : Nat} (h2 : v ≤ n) (hn : n < 2 ^ 31) : shX6_isPlace (nI v) (nI n) = some 1 := by
  unfold shX6_isPlace
  by_cases c : nI v = 0
  · rw [if_pos c]
  · rw [if_neg c, has4_t (by rcases Nat.eq_zero_or_pos v with h | h; · rw [h] at c; exact absurd rfl c
                             · exact h) h2 hn, bind_s, if_neg (by decide)]
theorem place_f {x : Int32} {n : Nat} (h : x < 0 ∨ nI n < x) (hn : n < 2 ^ 31) : shX6_isPlace x (nI n) = some 0 := by
  have h0 : ¬ x = 0 := by
    rcases h with h | h
    · intro e; rw [e] at h; exact absurd h (by decide)
    · intro e; rw [e] at h; exact absurd h (nlt0 hn)
  unfold shX6_isPlace
  rw [if_neg h0, has4_f (by rcases h with h | h; · exact Or.inl (by rw [ltI] at h ⊢; rw [show (0 : Int32).toInt = 0 from rfl] at h; rw [show (1 : Int32).toInt = 1 from rfl]; omega)
                            · exact Or.inr h), bind_s, if_pos rfl]
theorem prior_t {a : Nat} (h1 : 1 ≤ a) (h2 : a ≤ 99) : shX2_isPrior (nI a) = some 1 ∧ shX7_isPrior (nI a) = some 1 := by
  unfold shX2_isPrior shX7_isPrior
  rw [if_neg (nlt1 h1 (by omega)), if_neg (show ¬ (99 : Int32) < nI a from nlt (a := 99) h2 (by decide))]
  exact ⟨rfl, rfl⟩
theorem prior_f {x : Int32} (h : x < 1 ∨ nI 99 < x) : shX2_isPrior x = some 0 ∧ shX7_isPrior x = some 0 := by
  unfold shX2_isPrior shX7_isPrior
  by_cases c : x < 1
  · rw [if_pos c]; exact ⟨rfl, rfl⟩
  · rw [if_neg c, if_pos (show (99 : Int32) < x from h.resolve_left c)]; exact ⟨rfl, rfl⟩
/-! fault -/
theorem pu_fault {fk fp mf mfp : Int32} (h : IFa fk fp mf mfp) (a th : Int32) : ∃ o o', shX6_fault a fk fp = some o ∧ shX7_fault a th mf mfp = some o' ∧ o = o'.1 := by
  obtain ⟨rfl, rfl⟩ := h
  unfold shX6_fault shX7_fault shX0_faultKind shX0_faultPlace
  by_cases c : a = 0
  · rw [if_neg (not_not_intro c), if_neg (not_not_intro c)]
    exact ⟨_, _, rfl, rfl, rfl⟩
  · rw [if_pos c, if_pos c]
    by_cases c1 : a = 1
    · rw [if_neg (not_not_intro c1), if_neg (not_not_intro c1)]
      exact ⟨_, _, rfl, rfl, rfl⟩
    · rw [if_pos c1, if_pos c1]
      exact ⟨_, _, rfl, rfl, rfl⟩
/-! way -/
theorem pu_way {n : Nat} {wd mw : Nat → Int32} (hn : n ≤ 7) (hY : IY wd mw) (a b d th : Int32) : ∃ o o', shX6_way a b d (nI n) wd = some o ∧ shX7_way a b d th (nI n) mw = some o' ∧ o.1 = o'.1 ∧ IY o.2 o'.2.2 := by
  have no : ∀ {x : Int32}, (x < 0 ∨ nI n < x) → ∃ (u : Unit), True := fun _ => ⟨(), trivial⟩
  unfold shX6_way shX7_way
  rcases in0 a (n := n) (by omega) with ha | ⟨i, hi, rfl⟩
  · rw [place_f ha (by omega), bind_s, if_pos rfl]
    by_cases c : a < 0
    · rw [if_pos c]; exact ⟨_, _, rfl, rfl, rfl, hY⟩
    · rw [if_neg c, if_pos (ha.resolve_left c)]; exact ⟨_, _, rfl, rfl, rfl, hY⟩
  · rw [place_t hi (by omega), bind_s, if_neg (by decide), if_neg (nlt0 (v := i) (by omega)), if_neg (nlt hi (by omega))]
    rcases in0 b (n := n) (by omega) with hb | ⟨j, hj, rfl⟩
    · rw [place_f hb (by omega), bind_s, if_pos rfl]
      by_cases c : b < 0
      · rw [if_pos c]; exact ⟨_, _, rfl, rfl, rfl, hY⟩
      · rw [if_neg c, if_pos (hb.resolve_left c)]; exact ⟨_, _, rfl, rfl, rfl, hY⟩
    · rw [place_t hj (by omega), bind_s, if_neg (by decide), if_neg (nlt0 (v := j) (by omega)), if_neg (nlt hj (by omega))]
      by_cases c : nI i = nI j
      · rw [if_neg (not_not_intro c), if_pos c]; exact ⟨_, _, rfl, rfl, rfl, hY⟩
      · rw [if_pos c, if_neg c]
        have e1 : (nI i * (8 : Int32)) + nI j = nI (8 * i + j) := by rw [show (8 : Int32) = nI 8 from rfl, pk_mul, nI_add, Nat.mul_comm]
        have e2 : (nI j * (8 : Int32)) + nI i = nI (8 * j + i) := by rw [show (8 : Int32) = nI 8 from rfl, pk_mul, nI_add, Nat.mul_comm]
        have e3 : ((8 : Int32) * nI i) + nI j = nI (8 * i + j) := by rw [show (8 : Int32) = nI 8 from rfl, pk_mul, nI_add]
        have e4 : ((8 : Int32) * nI j) + nI i = nI (8 * j + i) := by rw [show (8 : Int32) = nI 8 from rfl, pk_mul, nI_add]
        have key : ∀ (s t : Int32), ((s = 0 ∧ t = -1) ∨ ∃ k : Nat, 1 ≤ k ∧ k ≤ 9 ∧ s = nI k ∧ t = nI k) → IY (upd (upd wd (8 * i + j) s) (8 * j + i) s) (upd (upd mw (8 * i + j) t) (8 * j + i) t) := by
          intro s t hst k hk
          by_cases h1 : k = 8 * j + i
          · rw [h1, upd_s, upd_s]; exact hst
          · rw [upd_n h1, upd_n h1]
            by_cases h2 : k = 8 * i + j
            · rw [h2, upd_s, upd_s]; exact hst
            · rw [upd_n h2, upd_n h2]; exact hY k hk
        have g1 : gd (nI (8 * i + j)) 64 = some () := gd_nI (by omega) (by decide)
        have g2 : gd (nI (8 * j + i)) 64 = some () := gd_nI (by omega) (by decide)
        have q1 : (nI (8 * i + j)).toNatClampNeg = 8 * i + j := cl (by omega)
        have q2 : (nI (8 * j + i)).toNatClampNeg = 8 * j + i := cl (by omega)
        by_cases cd : d = -1
        · rw [if_pos cd, if_pos cd]
          unfold shX6_way_j_41 shX7_way_j_52 shX5_set shX5_set_j_10
          rw [if_neg (not_not_intro cd), e1, e2, e3, e4, g1, g2]
          refine ⟨_, _, rfl, rfl, rfl, ?_⟩
          rw [q1, q2]
          exact key 0 d (Or.inl ⟨rfl, cd⟩)
        · rw [if_neg cd, if_neg cd]
          rcases in1 d (n := 9) (by decide) with hd | ⟨k, hk1, hk2, rfl⟩
          · by_cases c1 : d < 1
            · rw [if_pos c1, if_pos c1]; exact ⟨_, _, rfl, rfl, rfl, hY⟩
            · have c2 : ¬ d ≤ 9 := Int32.not_le.mpr (hd.resolve_left c1)
              rw [if_neg c1, if_neg c1, if_neg c2, if_neg c2]; exact ⟨_, _, rfl, rfl, rfl, hY⟩
          · have c2 : nI k ≤ (9 : Int32) := nI_le (b := 9) hk2 (by decide)
            rw [if_neg (nlt1 hk1 (by omega)), if_neg (nlt1 hk1 (by omega)), if_pos c2, if_pos c2]
            unfold shX6_way_j_41 shX7_way_j_52 shX5_set shX5_set_j_10
            rw [if_pos cd, e1, e2, e3, e4, g1, g2]
            refine ⟨_, _, rfl, rfl, rfl, ?_⟩
            rw [q1, q2]
            exact key (nI k) (nI k) (Or.inr ⟨k, hk1, hk2, rfl, rfl⟩)
/-! go -/
theorem pu_go {n : Nat} {wd mw : Nat → Int32} {rp day mat mday : Int32} (hn : n ≤ 7) (hY : IY wd mw) (hG : IG (nI n) rp day mat mday) (a th : Int32) : ∃ o o', shX6_go a rp day (nI n) wd = some o ∧ shX7_go a th (nI n) mday mat mw = some o' ∧ o.1 = o'.1 ∧ IG (nI n) o.2.1 o.2.2 o'.2.2.2 o'.2.2.1 := by
  have hG0 := hG
  obtain ⟨i, d, n', hn', hn7, hi, hd, rfl, rfl, rfl, rfl⟩ := hG
  have hnn : n = n' := (nI_eq (by omega) (by omega)).mp hn'
  subst hnn
  unfold shX6_go shX7_go
  rcases in0 a (n := n) (by omega) with ha | ⟨j, hj, rfl⟩
  · rw [place_f ha (by omega), bind_s, if_pos rfl]
    by_cases c : a < 0
    · rw [if_pos c]; exact ⟨_, _, rfl, rfl, rfl, hG0⟩
    · rw [if_neg c, if_pos (ha.resolve_left c)]; exact ⟨_, _, rfl, rfl, rfl, hG0⟩
  · rw [place_t hj (by omega), bind_s, if_neg (by decide), if_neg (nlt0 (v := j) (by omega)), if_neg (nlt hj (by omega))]
    by_cases c : nI j = nI i
    · rw [if_pos c, if_pos c]; exact ⟨_, _, rfl, rfl, rfl, hG0⟩
    · rw [if_neg c, if_neg c]
      have e1 : (nI i * (8 : Int32)) + nI j = nI (8 * i + j) := by rw [show (8 : Int32) = nI 8 from rfl, pk_mul, nI_add, Nat.mul_comm]
      have e3 : ((8 : Int32) * nI i) + nI j = nI (8 * i + j) := by rw [show (8 : Int32) = nI 8 from rfl, pk_mul, nI_add]
      have g1 : gd (nI (8 * i + j)) 64 = some () := gd_nI (by omega) (by decide)
      have q1 : (nI (8 * i + j)).toNatClampNeg = 8 * i + j := cl (by omega)
      unfold shX5_joins shX5_days
      rw [e1, e3, g1, q1]
      simp only [bind_s]
      rcases hY (8 * i + j) (by omega) with ⟨h1, h2⟩ | ⟨k, hk1, hk2, h1, h2⟩
      · rw [h1, h2, if_pos (show (0 : Int32) ≤ 0 by decide), bind_s, if_neg (by decide), if_pos (by decide)]
        exact ⟨_, _, rfl, rfl, rfl, hG0⟩
      · rw [h1, h2, if_neg (show ¬ nI k ≤ 0 from nI_nle (by omega) (by omega)), bind_s, if_pos (by decide), if_neg (nlt0 (v := k) (by omega)), nI_add]
        by_cases cc : d + k ≤ 9999
        · have cx : nI (d + k) ≤ (9999 : Int32) := nI_le (b := 9999) cc (by decide)
          rw [if_pos cx, if_pos cx]
          exact ⟨_, _, rfl, rfl, rfl, j, d + k, n, rfl, hn7, hj, cc, rfl, rfl, rfl, rfl⟩
        · have cx : ¬ nI (d + k) ≤ (9999 : Int32) := nle (b := 9999) (by omega) (by omega)
          rw [if_neg cx, if_neg cx]
          exact ⟨_, _, rfl, rfl, rfl, hG0⟩
