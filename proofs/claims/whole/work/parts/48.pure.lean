/-! rules: scanning -/
def sc (P : Int32 → Bool) (w : Nat → Int32) : Nat → Nat → Nat
  | 0, i => i
  | f + 1, i => if P (w i) = true then sc P w f (i + 1) else i
def scn (P : Int32 → Bool) (w : Nat → Int32) (e i : Nat) : Nat := sc P w (e - i) i
def isB (b : Int32) : Bool := decide (b = 10 ∨ b = 32)
def isL (b : Int32) : Bool := decide (¬ b < 97 ∧ ¬ 122 < b)
def isD (b : Int32) : Bool := decide (¬ b < 48 ∧ ¬ 57 < b)
theorem sc_b {P : Int32 → Bool} {w : Nat → Int32} : ∀ f i, i ≤ sc P w f i ∧ sc P w f i ≤ i + f ∧ (sc P w f i < i + f → P (w (sc P w f i)) = false) ∧ (∀ j, i ≤ j → j < sc P w f i → P (w j) = true)
  | 0, i => ⟨Nat.le_refl _, Nat.le_refl _, fun h => absurd h (Nat.lt_irrefl _), fun j h1 h2 => absurd (Nat.lt_of_le_of_lt h1 h2) (Nat.lt_irrefl _)⟩
  | f + 1, i => by
    unfold sc
    by_cases c : P (w i) = true
    · rw [if_pos c]
      obtain ⟨h1, h2, h3, h4⟩ := sc_b (P := P) (w := w) f (i + 1)
      refine ⟨by omega, by omega, fun h => h3 (by omega), fun j g1 g2 => ?_⟩
      by_cases cj : j = i
      · rw [cj]; exact c
      · exact h4 j (by omega) g2
    · rw [if_neg c]
      exact ⟨Nat.le_refl _, by omega, fun _ => by simpa using c, fun j h1 h2 => by omega⟩
theorem sc_congr {P : Int32 → Bool} {w w' : Nat → Int32} : ∀ f i, (∀ j, i ≤ j → j < i + f → w j = w' j) → sc P w f i = sc P w' f i
  | 0, _, _ => rfl
  | f + 1, i, h => by
    unfold sc
    rw [h i (by omega) (by omega), sc_congr f (i + 1) (fun j h1 h2 => h j (by omega) (by omega))]
theorem scn_b {P : Int32 → Bool} {w : Nat → Int32} {e i : Nat} (h : i ≤ e) : i ≤ scn P w e i ∧ scn P w e i ≤ e ∧ (scn P w e i < e → P (w (scn P w e i)) = false) := by
  obtain ⟨h1, h2, h3, -⟩ := sc_b (P := P) (w := w) (e - i) i
  unfold scn
  exact ⟨h1, by omega, fun g => h3 (by omega)⟩
theorem scn_ne {P : Int32 → Bool} {w : Nat → Int32} {e i : Nat} (h : i < e) (hp : P (w i) = true) : i < scn P w e i := by
  unfold scn
  obtain ⟨f, hf⟩ : ∃ f, e - i = f + 1 := ⟨e - i - 1, by omega⟩
  rw [hf, sc, if_pos hp]
  have := (sc_b (P := P) (w := w) f (i + 1)).1
  omega
theorem scn_st {P : Int32 → Bool} {w : Nat → Int32} {e i : Nat} (hp : i < e → P (w i) = false) : scn P w e i = i := by
  unfold scn
  by_cases h : i < e
  · obtain ⟨f, hf⟩ : ∃ f, e - i = f + 1 := ⟨e - i - 1, by omega⟩
    rw [hf, sc, if_neg (by rw [hp h]; decide)]
  · rw [show e - i = 0 by omega, sc]
theorem scn_congr {P : Int32 → Bool} {w w' : Nat → Int32} {e i n : Nat} (h : i ≤ e) (hn : e ≤ n) (hw : ∀ j, j < n → w j = w' j) : scn P w e i = scn P w' e i := sc_congr _ _ (fun j _ h2 => hw j (by omega))
theorem lp_scan {P : Int32 → Bool} {w : Nat → Int32} {e : Nat} {f : Int32 → Option (Int32 ⊕ Int32)} (h : ∀ i, i < e → f (nI i) = some (if P (w i) = true then .inl (nI (i + 1)) else .inr (nI i))) (he : f (nI e) = some (.inr (nI e))) : ∀ i, i ≤ e → lp f (nI i) = some (nI (scn P w e i)) := by
  have key : ∀ m i, i + m = e → lp f (nI i) = some (nI (sc P w m i)) := by
    intro m
    induction m with
    | zero => intro i hi; rw [show i = e by omega]; exact lp_inr he
    | succ m ih =>
      intro i hi
      have := h i (by omega)
      unfold sc
      by_cases c : P (w i) = true
      · rw [if_pos c] at this ⊢
        rw [lp_inl this]
        exact ih (i + 1) (by omega)
      · rw [if_neg c] at this ⊢
        exact lp_inr this
  intro i hi
  exact key (e - i) i (by omega)
theorem at_c {i n : Nat} (hi : i < n) (hn : n ≤ 200) (w : Nat → Int32) : shX3_at (nI i) (nI n) w = some (w i) := by
  unfold shX3_at
  rw [if_neg (nlt0 (by omega)), if_neg (nI_ge hi (by omega)), gd_nI (k := i) (by omega) (by decide), cl (by omega)]
  rfl
theorem sb_c {e n : Nat} (he : e ≤ n) (hn : n ≤ 200) (w : Nat → Int32) {i : Nat} (hi : i ≤ e) : shX0_skipBlanks (nI i) (nI e) (nI n) w = some (nI (scn isB w e i)) := by
  unfold shX0_skipBlanks shX0_skipBlanks_j_38
  have key : lp (fun s : Int32 => shX0_skipBlanks_L0 (nI e) (nI n) w s) (nI i) = some (nI (scn isB w e i)) := by
   refine lp_scan (P := isB) (w := w) (e := e) (fun i hi => ?_) ?_ i hi
   · unfold shX0_skipBlanks_L0 shX0_isBlank
     rw [if_neg (nI_ge hi (by omega)), at_c (by omega) hn]
     simp only [bind_s, isB, decide_eq_true_eq]
     by_cases c : w i = 10
     · rw [if_pos c, if_pos (Or.inl c)]
       simp only [bind_s, i10]
       rw [nI_1]
     · rw [if_neg c]
       by_cases c2 : w i = 32
       · rw [if_neg (not_not_intro c2), if_pos (Or.inr c2)]
         simp only [bind_s, i10]
         rw [nI_1]
       · rw [if_pos c2, if_neg (fun h => h.elim c c2)]
         simp only [bind_s, ↓reduceIte]
   · unfold shX0_skipBlanks_L0
     rw [if_pos (nI_le (Nat.le_refl _) (by omega))]
  rw [key, bind_s]
theorem sb_m {e : Nat} (he : e ≤ 200) (w : Nat → Int32) {i : Nat} (hi : i ≤ e) : lp (fun s : Int32 => shX7_take_L0 (nI e) w s) (nI i) = some (nI (scn isB w e i)) := by
  refine lp_scan (P := isB) (w := w) (e := e) (fun i hi => ?_) ?_ i hi
  · unfold shX7_take_L0 shX7_take_k0_39
    rw [if_neg (nI_ge hi (by omega)), gd_nI (k := i) (by omega) (by decide), cl (by omega)]
    simp only [bind_s, isB, decide_eq_true_eq]
    by_cases c : w i = 10
    · rw [if_pos c, if_pos (Or.inl c), nI_1]
    · rw [if_neg c]
      by_cases c2 : w i = 32
      · rw [if_neg (not_not_intro c2), if_pos (Or.inr c2), nI_1]
      · rw [if_pos c2, if_neg (fun h => h.elim c c2)]
  · unfold shX7_take_L0
    rw [if_pos (nI_le (Nat.le_refl _) (by omega))]
theorem le_c {e n : Nat} (he : e ≤ n) (hn : n ≤ 200) (w : Nat → Int32) {i : Nat} (hi : i ≤ e) : lp (fun s : Int32 => shX0_readWord_L5 (nI e) (nI n) w s) (nI i) = some (nI (scn isL w e i)) := by
  refine lp_scan (P := isL) (w := w) (e := e) (fun i hi => ?_) ?_ i hi
  · unfold shX0_readWord_L5 shX0_isLetter
    rw [if_neg (nI_ge hi (by omega)), at_c (by omega) hn]
    simp only [bind_s, isL, decide_eq_true_eq]
    by_cases c : w i < 97
    · rw [if_pos c, if_neg (fun h => h.1 c)]
      simp only [bind_s, ↓reduceIte]
    · rw [if_neg c]
      by_cases c2 : 122 < w i
      · rw [if_pos c2, if_neg (fun h => h.2 c2)]
        simp only [bind_s, ↓reduceIte]
      · rw [if_neg c2, if_pos ⟨c, c2⟩]
        simp only [bind_s, i10]
        rw [nI_1]
  · unfold shX0_readWord_L5
    rw [if_pos (nI_le (Nat.le_refl _) (by omega))]
theorem sm_m {e i : Nat} (he : e ≤ 200) (w : Nat → Int32) (hi : i ≤ e) : shX7_isSmall (nI i) (nI e) w = some (if i < e ∧ isL (w i) = true then 1 else 0) := by
  unfold shX7_isSmall
  by_cases h : i < e
  · rw [if_neg (nI_ge h (by omega)), gd_nI (k := i) (by omega) (by decide), cl (by omega)]
    simp only [bind_s, isL, decide_eq_true_eq]
    by_cases c : w i < 97
    · rw [if_pos c, if_neg (fun h => h.2.1 c)]
    · rw [if_neg c]
      by_cases c2 : 122 < w i
      · rw [if_pos c2, if_neg (fun h => h.2.2 c2)]
      · rw [if_neg c2, if_pos ⟨h, c, c2⟩]
  · rw [if_pos (nI_le (by omega) (by omega)), if_neg (fun g => h g.1)]
theorem dg_m {e i : Nat} (he : e ≤ 200) (w : Nat → Int32) (hi : i ≤ e) : shX7_isDigit (nI i) (nI e) w = some (if i < e ∧ isD (w i) = true then 1 else 0) := by
  unfold shX7_isDigit
  by_cases h : i < e
  · rw [if_neg (nI_ge h (by omega)), gd_nI (k := i) (by omega) (by decide), cl (by omega)]
    simp only [bind_s, isD, decide_eq_true_eq]
    by_cases c : w i < 48
    · rw [if_pos c, if_neg (fun h => h.2.1 c)]
    · rw [if_neg c]
      by_cases c2 : 57 < w i
      · rw [if_pos c2, if_neg (fun h => h.2.2 c2)]
      · rw [if_neg c2, if_pos ⟨h, c, c2⟩]
  · rw [if_pos (nI_le (by omega) (by omega)), if_neg (fun g => h g.1)]
theorem le_m {e : Nat} (he : e ≤ 200) (w : Nat → Int32) {i : Nat} (hi : i ≤ e) : lp (fun s : Int32 => shX7_take_L90 (nI e) w s) (nI i) = some (nI (scn isL w e i)) := by
  refine lp_scan (P := isL) (w := w) (e := e) (fun i hi => ?_) ?_ i hi
  · unfold shX7_take_L90
    rw [sm_m he w (by omega), bind_s]
    by_cases c : isL (w i) = true
    · rw [show (if i < e ∧ isL (w i) = true then (1 : Int32) else 0) = 1 from if_pos ⟨hi, c⟩, if_pos c, i10, nI_1]
    · rw [show (if i < e ∧ isL (w i) = true then (1 : Int32) else 0) = 0 from if_neg (fun h => c h.2), if_neg c, i00]
  · unfold shX7_take_L90
    rw [sm_m he w (Nat.le_refl _), show (if e < e ∧ isL (w e) = true then (1 : Int32) else 0) = 0 from if_neg (fun h => absurd h.1 (Nat.lt_irrefl _)), bind_s, i00]
/-! numbers -/
def dgv (b : Int32) : Nat := (b.toInt - 48).toNat
theorem dgv_c {b : Int32} (h : isD b = true) : dgv b ≤ 9 ∧ b = nI (48 + dgv b) := by
  simp only [isD, decide_eq_true_eq, ltI] at h
  rw [show (48 : Int32).toInt = 48 from rfl, show (57 : Int32).toInt = 57 from rfl] at h
  unfold dgv
  exact ⟨by omega, nI_ofInt (by omega) (by omega)⟩
def vC (w : Nat → Int32) : Nat → Nat → Nat → Nat
  | 0, _, x => x
  | f + 1, i, x => if isD (w i) = true then vC w f (i + 1) (if 10 * x + dgv (w i) < 100000 then 10 * x + dgv (w i) else 100000) else x
def vR (w : Nat → Int32) : Nat → Nat → Nat → Nat
  | 0, _, x => x
  | f + 1, i, x => if isD (w i) = true then vR w f (i + 1) (if x ≤ 9999 then 10 * x + dgv (w i) else x) else x
def NR (x y : Nat) : Prop := (x = y ∧ x ≤ 99999) ∨ (10000 ≤ x ∧ x ≤ 100000 ∧ 10000 ≤ y ∧ y ≤ 99999)
theorem vCR {w w' : Nat → Int32} : ∀ f i x y, (∀ j, i ≤ j → j < i + f → w j = w' j) → NR x y → NR (vC w f i x) (vR w' f i y)
  | 0, _, _, _, _, h => h
  | f + 1, i, x, y, hw, h => by
    unfold vC vR
    rw [← hw i (by omega) (by omega)]
    by_cases c : isD (w i) = true
    · rw [if_pos c, if_pos c]
      refine vCR f (i + 1) _ _ (fun j h1 h2 => hw j (by omega) (by omega)) ?_
      have d9 := (dgv_c c).1
      rcases h with ⟨rfl, h2⟩ | ⟨h1, h2, h3, h4⟩
      · by_cases c9 : x ≤ 9999
        · rw [if_pos (by omega), if_pos c9]; exact Or.inl ⟨rfl, by omega⟩
        · rw [if_neg c9]
          refine Or.inr ⟨?_, ?_, by omega, by omega⟩
          · split <;> omega
          · split <;> omega
      · rw [if_neg (show ¬ y ≤ 9999 by omega)]
        refine Or.inr ⟨?_, ?_, h3, h4⟩
        · split <;> omega
        · split <;> omega
    · rw [if_neg c, if_neg c]; exact h
theorem nu_c {e n : Nat} (he : e ≤ n) (hn : n ≤ 200) (w : Nat → Int32) : ∀ f i x, i + f = e → x ≤ 100000 → lp (fun s : Int32 × Int32 => shX0_readNumber_L8 (nI e) (nI n) w s.1 s.2) (nI x, nI i) = some (nI (vC w f i x), nI (sc isD w f i)) := by
  intro f
  induction f with
  | zero =>
    intro i x hi _
    refine lp_inr ?_
    show shX0_readNumber_L8 (nI e) (nI n) w (nI x) (nI i) = _
    unfold shX0_readNumber_L8
    rw [if_pos (nI_le (by omega) (by omega))]; rfl
  | succ f ih =>
    intro i x hi hx
    have body : shX0_readNumber_L8 (nI e) (nI n) w (nI x) (nI i) = if isD (w i) = true then some (.inl (nI (if 10 * x + dgv (w i) < 100000 then 10 * x + dgv (w i) else 100000), nI (i + 1))) else some (.inr (nI x, nI i)) := by
      unfold shX0_readNumber_L8 shX0_isDigit
      rw [if_neg (nI_ge (by omega) (by omega)), at_c (by omega) hn]
      simp only [bind_s]
      by_cases c : isD (w i) = true
      · obtain ⟨d9, db⟩ := dgv_c c
        have c' := c
        simp only [isD, decide_eq_true_eq] at c'
        rw [if_neg c'.1, if_neg c'.2, if_pos c]
        simp only [bind_s, i10]
        have e1 : nI x * (10 : Int32) + w i - 48 = nI (10 * x + dgv (w i)) := by
          rw [show w i = nI (48 + dgv (w i)) from db, show (10 : Int32) = nI 10 from rfl, pk_mul, nI_add, show (48 : Int32) = nI 48 from rfl, pk_sub (by omega), ← db]
          congr 1; omega
        rw [e1, nI_1]
        by_cases c1 : 10 * x + dgv (w i) < 100000
        · rw [if_pos (show nI (10 * x + dgv (w i)) < (100000 : Int32) from nI_lt (b := 100000) c1 (by decide)), if_pos c1]
        · rw [if_neg (show ¬ nI (10 * x + dgv (w i)) < (100000 : Int32) from nlt (b := 100000) (by omega) (by omega)), if_neg c1]; rfl
      · rw [if_neg c]
        have c' : ¬ (¬ w i < 48 ∧ ¬ 57 < w i) := by simpa only [isD, decide_eq_true_eq] using c
        by_cases c1 : w i < 48
        · rw [if_pos c1]; simp only [bind_s, ↓reduceIte]
        · rw [if_neg c1, if_pos (by by_cases c2 : 57 < w i; · exact c2
                                    · exact absurd ⟨c1, c2⟩ c')]
          simp only [bind_s, ↓reduceIte]
    unfold vC sc
    by_cases c : isD (w i) = true
    · rw [if_pos c] at body
      rw [if_pos c, if_pos c, lp_inl (f := fun s : Int32 × Int32 => shX0_readNumber_L8 (nI e) (nI n) w s.1 s.2) (s := (nI x, nI i)) body]
      exact ih (i + 1) _ (by omega) (by split <;> omega)
    · rw [if_neg c] at body
      rw [if_neg c, if_neg c]
      exact lp_inr (f := fun s : Int32 × Int32 => shX0_readNumber_L8 (nI e) (nI n) w s.1 s.2) (s := (nI x, nI i)) body
theorem nu_m {e : Nat} (he : e ≤ 200) (w : Nat → Int32) : ∀ f i x, i + f = e → x ≤ 99999 → lp (fun s : Int32 × Int32 => shX7_take_L170 (nI e) w s.1 s.2) (nI i, nI x) = some (nI (sc isD w f i), nI (vR w f i x)) := by
  intro f
  induction f with
  | zero =>
    intro i x hi _
    refine lp_inr ?_
    show shX7_take_L170 (nI e) w (nI i) (nI x) = _
    unfold shX7_take_L170
    rw [dg_m he w (by omega), show (if i < e ∧ isD (w i) = true then (1 : Int32) else 0) = 0 from if_neg (fun h => by omega), bind_s, i00]; rfl
  | succ f ih =>
    intro i x hi hx
    have body : shX7_take_L170 (nI e) w (nI i) (nI x) = if isD (w i) = true then some (.inl (nI (i + 1), nI (if x ≤ 9999 then 10 * x + dgv (w i) else x))) else some (.inr (nI i, nI x)) := by
      unfold shX7_take_L170 shX7_take_k170_219
      rw [dg_m he w (by omega), bind_s]
      by_cases c : isD (w i) = true
      · obtain ⟨d9, db⟩ := dgv_c c
        have e1 : (10 : Int32) * nI x + w i - 48 = nI (10 * x + dgv (w i)) := by
          rw [show w i = nI (48 + dgv (w i)) from db, show (10 : Int32) = nI 10 from rfl, pk_mul, nI_add, show (48 : Int32) = nI 48 from rfl, pk_sub (by omega), ← db]
          congr 1; omega
        rw [show (if i < e ∧ isD (w i) = true then (1 : Int32) else 0) = 1 from if_pos ⟨by omega, c⟩, if_pos c, i10, gd_nI (k := i) (by omega) (by decide), cl (by omega), e1, nI_1]
        by_cases c1 : x ≤ 9999
        · rw [if_pos (show nI x ≤ (9999 : Int32) from nI_le (b := 9999) c1 (by decide)), if_pos c1]; rfl
        · rw [if_neg (show ¬ nI x ≤ (9999 : Int32) from nle (b := 9999) (by omega) (by omega)), if_neg c1]
      · rw [show (if i < e ∧ isD (w i) = true then (1 : Int32) else 0) = 0 from if_neg (fun h => c h.2), if_neg c, i00]
    unfold vR sc
    by_cases c : isD (w i) = true
    · rw [if_pos c] at body
      rw [if_pos c, if_pos c, lp_inl (f := fun s : Int32 × Int32 => shX7_take_L170 (nI e) w s.1 s.2) (s := (nI i, nI x)) body]
      refine ih (i + 1) _ (by omega) ?_
      have d9 := (dgv_c c).1
      split <;> omega
    · rw [if_neg c] at body
      rw [if_neg c, if_neg c]
      exact lp_inr (f := fun s : Int32 × Int32 => shX7_take_L170 (nI e) w s.1 s.2) (s := (nI i, nI x)) body
