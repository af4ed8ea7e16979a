/-! drill -/
theorem cnt_congr {P Q : Nat → Bool} : ∀ n, (∀ i, i < n → P i = Q i) → cnt P n = cnt Q n := by
  intro n
  induction n with
  | zero => intro _; rfl
  | succ n ih => intro h; show cnt P n + _ = cnt Q n + _; rw [ih (fun i hi => h i (by omega)), h n (by omega)]
theorem cnt_le (P : Nat → Bool) : ∀ n, cnt P n ≤ n := by
  intro n
  induction n with
  | zero => exact Nat.le_refl 0
  | succ n ih => show cnt P n + (if P n then 1 else 0) ≤ n + 1; split <;> omega
theorem cw_add {pipe met : Nat → Int32} {ps : Nat → Nat} {r q : Nat} (m : Int32) (hr : r < 4) (hps : ∀ x, x < 4 → ps x ≤ 8) (hp : ps r < 8) (hq : q < 4) {r' k' : Nat} (hr' : r' < 4) (hk' : k' < 4) :
    cnt (cWet (upd pipe (8 * r + ps r) (nI (q + 1))) (upd met (8 * r + ps r) m) r' k') (if r' = r then ps r + 1 else ps r') = cnt (cWet pipe met r' k') (ps r') + (if r' = r ∧ k' = q ∧ ¬ m = 0 then 1 else 0) := by
  by_cases e : r' = r
  · subst e
    rw [if_pos rfl]
    have h1 : cnt (cWet (upd pipe (8 * r' + ps r') (nI (q + 1))) (upd met (8 * r' + ps r') m) r' k') (ps r') = cnt (cWet pipe met r' k') (ps r') := cnt_congr _ (fun i hi => by
      have hne : 8 * r' + i ≠ 8 * r' + ps r' := by omega
      simp only [cWet, upd_n hne])
    have h2 : cWet (upd pipe (8 * r' + ps r') (nI (q + 1))) (upd met (8 * r' + ps r') m) r' k' (ps r') = (decide (nI (q + 1) = nI (k' + 1)) && !decide (m = 0)) := by simp only [cWet, upd_s]
    show cnt _ (ps r') + (if _ then 1 else 0) = _
    rw [h1, h2]
    congr 1
    by_cases c : k' = q
    · subst c
      by_cases cm : m = 0 <;> simp [cm]
    · have : ¬ nI (q + 1) = nI (k' + 1) := fun h => c (by have := (nI_eq (a := q + 1) (b := k' + 1) (by omega) (by omega)).mp h; omega)
      simp [this, c]
  · rw [if_neg e, if_neg (fun h => e h.1), Nat.add_zero]
    refine cnt_congr _ (fun i hi => ?_)
    have := hps r' hr'
    have hne : 8 * r' + i ≠ 8 * r + ps r := by omega
    simp only [cWet, upd_n hne]
theorem cd_add {pipe met : Nat → Int32} {ps : Nat → Nat} {r q : Nat} (m : Int32) (hr : r < 4) (hps : ∀ x, x < 4 → ps x ≤ 8) (hp : ps r < 8) (hq : q < 4) {r' k' : Nat} (hr' : r' < 4) (hk' : k' < 4) :
    cnt (cDry (upd pipe (8 * r + ps r) (nI (q + 1))) (upd met (8 * r + ps r) m) r' k') (if r' = r then ps r + 1 else ps r') = cnt (cDry pipe met r' k') (ps r') + (if r' = r ∧ k' = q ∧ m = 0 then 1 else 0) := by
  by_cases e : r' = r
  · subst e
    rw [if_pos rfl]
    have h1 : cnt (cDry (upd pipe (8 * r' + ps r') (nI (q + 1))) (upd met (8 * r' + ps r') m) r' k') (ps r') = cnt (cDry pipe met r' k') (ps r') := cnt_congr _ (fun i hi => by
      have hne : 8 * r' + i ≠ 8 * r' + ps r' := by omega
      simp only [cDry, upd_n hne])
    have h2 : cDry (upd pipe (8 * r' + ps r') (nI (q + 1))) (upd met (8 * r' + ps r') m) r' k' (ps r') = (decide (nI (q + 1) = nI (k' + 1)) && decide (m = 0)) := by simp only [cDry, upd_s]
    show cnt _ (ps r') + (if _ then 1 else 0) = _
    rw [h1, h2]
    congr 1
    by_cases c : k' = q
    · subst c
      by_cases cm : m = 0 <;> simp [cm]
    · have : ¬ nI (q + 1) = nI (k' + 1) := fun h => c (by have := (nI_eq (a := q + 1) (b := k' + 1) (by omega) (by omega)).mp h; omega)
      simp [this, c]
  · rw [if_neg e, if_neg (fun h => e h.1), Nat.add_zero]
    refine cnt_congr _ (fun i hi => ?_)
    have := hps r' hr'
    have hne : 8 * r' + i ≠ 8 * r + ps r := by omega
    simp only [cDry, upd_n hne]
def KC (ps : Nat → Nat) (pipe met W B : Nat → Int32) : Prop := (∀ r i, r < 4 → i < ps r → (∃ k : Nat, 1 ≤ k ∧ k ≤ 4 ∧ pipe (8 * r + i) = nI k) ∧ (met (8 * r + i) = 0 ∨ met (8 * r + i) = 1)) ∧ (∀ r k, r < 4 → k < 4 → W (4 * r + k) = nI (cnt (cWet pipe met r k) (ps r)) ∧ B (4 * r + k) = nI (cnt (cDry pipe met r k) (ps r)))
def psA (ps : Nat → Nat) (r i : Nat) : Nat → Nat := fun x => if x = r then ps r + i else ps x
theorem psA_r {ps : Nat → Nat} {r i : Nat} : psA ps r i r = ps r + i := if_pos rfl
theorem psA_n {ps : Nat → Nat} {r i x : Nat} (h : x ≠ r) : psA ps r i x = ps x := if_neg h
theorem psA_0 {ps : Nat → Nat} {r : Nat} : psA ps r 0 = ps := by
  funext x
  by_cases h : x = r
  · rw [h, psA_r]; rfl
  · rw [psA_n h]
theorem psA_1 {ps : Nat → Nat} {r i : Nat} : psA (psA ps r i) r 1 = psA ps r (i + 1) := by
  funext x
  by_cases h : x = r
  · rw [h, psA_r, psA_r, psA_r]; rfl
  · rw [psA_n h, psA_n h, psA_n h]
theorem KC_in {ps : Nat → Nat} {pipe met : Nat → Int32} (h : ∀ r i, r < 4 → i < ps r → (∃ k : Nat, 1 ≤ k ∧ k ≤ 4 ∧ pipe (8 * r + i) = nI k) ∧ (met (8 * r + i) = 0 ∨ met (8 * r + i) = 1)) {r q : Nat} {m : Int32} (hr : r < 4) (hps : ∀ x, x < 4 → ps x ≤ 8) (hp : ps r < 8) (hq : q < 4) (hm : m = 0 ∨ m = 1) :
    ∀ r' i, r' < 4 → i < psA ps r 1 r' → (∃ k : Nat, 1 ≤ k ∧ k ≤ 4 ∧ upd pipe (8 * r + ps r) (nI (q + 1)) (8 * r' + i) = nI k) ∧ (upd met (8 * r + ps r) m (8 * r' + i) = 0 ∨ upd met (8 * r + ps r) m (8 * r' + i) = 1) := by
  intro r' i hr' hi
  by_cases e : 8 * r' + i = 8 * r + ps r
  · rw [e, upd_s, upd_s]; exact ⟨⟨q + 1, by omega, by omega, rfl⟩, hm⟩
  · rw [upd_n e, upd_n e]
    refine h r' i hr' ?_
    by_cases c : r' = r
    · subst c; rw [psA_r] at hi; omega
    · rw [psA_n c] at hi; exact hi
theorem KC_dry {ps : Nat → Nat} {pipe met W B : Nat → Int32} (h : KC ps pipe met W B) {r q : Nat} (hr : r < 4) (hps : ∀ x, x < 4 → ps x ≤ 8) (hp : ps r < 8) (hq : q < 4) : KC (psA ps r 1) (upd pipe (8 * r + ps r) (nI (q + 1))) (upd met (8 * r + ps r) 0) W (upd B (4 * r + q) (B (4 * r + q) + 1)) := by
  refine ⟨KC_in h.1 hr hps hp hq (Or.inl rfl), fun r' k' hr' hk' => ?_⟩
  obtain ⟨e1, e2⟩ := h.2 r' k' hr' hk'
  have c1 := cw_add (pipe := pipe) (met := met) 0 hr hps hp hq hr' hk'
  have c2 := cd_add (pipe := pipe) (met := met) 0 hr hps hp hq hr' hk'
  rw [if_neg (c := r' = r ∧ k' = q ∧ ¬ (0 : Int32) = 0) (fun h => h.2.2 rfl), Nat.add_zero] at c1
  refine ⟨by rw [e1]; unfold psA; rw [c1]; rfl, ?_⟩
  unfold psA
  rw [c2]
  by_cases c : r' = r ∧ k' = q
  · obtain ⟨rfl, rfl⟩ := c
    rw [upd_s, e2, nI_1, if_pos ⟨rfl, rfl, rfl⟩]
  · rw [upd_n (show 4 * r' + k' ≠ 4 * r + q by omega), e2, if_neg (fun h => c ⟨h.1, h.2.1⟩)]; rfl
theorem KC_wet {ps : Nat → Nat} {pipe met W B : Nat → Int32} (h : KC ps pipe met W B) {r q : Nat} (hr : r < 4) (hps : ∀ x, x < 4 → ps x ≤ 8) (hp : ps r < 8) (hq : q < 4) : KC (psA ps r 1) (upd pipe (8 * r + ps r) (nI (q + 1))) (upd met (8 * r + ps r) 1) (upd W (4 * r + q) (W (4 * r + q) + 1)) B := by
  refine ⟨KC_in h.1 hr hps hp hq (Or.inr rfl), fun r' k' hr' hk' => ?_⟩
  obtain ⟨e1, e2⟩ := h.2 r' k' hr' hk'
  have c1 := cw_add (pipe := pipe) (met := met) 1 hr hps hp hq hr' hk'
  have c2 := cd_add (pipe := pipe) (met := met) 1 hr hps hp hq hr' hk'
  rw [if_neg (c := r' = r ∧ k' = q ∧ (1 : Int32) = 0) (fun h => absurd h.2.2 (by decide)), Nat.add_zero] at c2
  refine ⟨?_, by rw [e2]; unfold psA; rw [c2]; rfl⟩
  unfold psA
  rw [c1]
  by_cases c : r' = r ∧ k' = q
  · obtain ⟨rfl, rfl⟩ := c
    rw [upd_s, e1, nI_1, if_pos ⟨rfl, rfl, by decide⟩]
  · rw [upd_n (show 4 * r' + k' ≠ 4 * r + q by omega), e1, if_neg (fun h => c ⟨h.1, h.2.1⟩)]; rfl
/-- the class's loop over the pipes ahead of the last -/
def brF (B : Nat → Int32) (r : Nat) : Nat → Nat → Int32
  | 0 => B
  | i + 1 => upd (brF B r i) (4 * r + i) (brF B r i (4 * r + i) + 1)
theorem bb_c {r k : Nat} (hr : r < 4) (hk : k < 4) (B : Nat → Int32) : lp (fun s : Int32 × (Nat → Int32) => shX2_addHole_L14 (nI r) (nI (k + 1)) s.1 s.2) (nI r * 4, B) = some (brF B r k) := by
  have e0 : nI r * (4 : Int32) = nI (4 * r) := by rw [show (4 : Int32) = nI 4 from rfl, pk_mul, Nat.mul_comm]
  have e1 : ((nI r * (4 : Int32)) + nI (k + 1)) - 1 = nI (4 * r + k) := by rw [e0, nI_add, show 4 * r + (k + 1) = (4 * r + k) + 1 by omega, nI_pred]
  rw [e0]
  refine lp_to (fun i => (nI (4 * r + i), brF B r i)) k (fun i hi => ?_) ?_
  · show shX2_addHole_L14 (nI r) (nI (k + 1)) (nI (4 * r + i)) (brF B r i) = some (.inl (nI (4 * r + i + 1), upd (brF B r i) (4 * r + i) (brF B r i (4 * r + i) + 1)))
    unfold shX2_addHole_L14
    rw [e1, if_neg (nI_ge (by omega) (by omega)), gd_nI (k := 4 * r + i) (by omega) (by decide), cl (by omega), nI_1]
    rfl
  · show shX2_addHole_L14 (nI r) (nI (k + 1)) (nI (4 * r + k)) (brF B r k) = some (.inr (brF B r k))
    unfold shX2_addHole_L14
    rw [e1, if_pos (nI_le (Nat.le_refl _) (by omega))]
/-- the reference's loop over all pipes of the hole -/
def moF (w : Int32) (k : Nat) (pi pipe met : Nat → Int32) (r p : Nat) : Nat → (Nat → Int32) × (Nat → Int32) × (Nat → Int32)
  | 0 => (pi, pipe, met)
  | i + 1 => (upd (moF w k pi pipe met r p i).1 r (nI (p + i + 1)), upd (moF w k pi pipe met r p i).2.1 (8 * r + p + i) (nI (i + 1)), upd (moF w k pi pipe met r p i).2.2 (8 * r + p + i) (if w = 0 then 0 else if i + 1 = k then 1 else 0))
theorem mo_pi {w : Int32} {k : Nat} {pi pipe met : Nat → Int32} {r p : Nat} (h : pi r = nI p) : ∀ i, (moF w k pi pipe met r p i).1 r = nI (p + i)
  | 0 => h
  | i + 1 => by show upd _ r _ r = _; rw [upd_s]; rfl
theorem mo_pn {w : Int32} {k : Nat} {pi pipe met : Nat → Int32} {r p x : Nat} (h : x ≠ r) : ∀ i, (moF w k pi pipe met r p i).1 x = pi x
  | 0 => rfl
  | i + 1 => by show upd _ r _ x = _; rw [upd_n h]; exact mo_pn h i
theorem mo_m {w : Int32} {r k p v : Nat} (hr : r < 4) (hk1 : 1 ≤ k) (hk : k ≤ 4) (hp : p + k ≤ 8) (hv : v < 8) {rock pi pipe met : Nat → Int32} (h1 : rock v = nI r) (h2 : pi r = nI p) : lp (fun s : Int32 × (Nat → Int32) × (Nat → Int32) × (Nat → Int32) => shX7_drill_L98 (nI k) w (nI v) rock s.1 s.2.1 s.2.2.1 s.2.2.2) (1, pi, pipe, met) = some (moF w k pi pipe met r p k) := by
  refine lp_to (fun i => (nI (i + 1), moF w k pi pipe met r p i)) k (fun i hi => ?_) ?_
  · show shX7_drill_L98 (nI k) w (nI v) rock (nI (i + 1)) (moF w k pi pipe met r p i).1 (moF w k pi pipe met r p i).2.1 (moF w k pi pipe met r p i).2.2 = some (.inl (nI (i + 1 + 1), moF w k pi pipe met r p (i + 1)))
    have e1 : (8 * nI r) + nI (p + i) = nI (8 * r + p + i) := by rw [show (8 : Int32) = nI 8 from rfl, pk_mul, nI_add, Nat.add_assoc]
    unfold shX7_drill_L98 shX7_drill_k98_155 shX7_drill_k98_156
    rw [if_neg (nlt (a := k) (b := i + 1) (by omega) (by omega)), cl (n := v) (by omega), h1, cl (n := r) (by omega), mo_pi h2 i, e1, gd_nI (k := r) (by omega) (by decide), gd_nI (k := 8 * r + p + i) (by omega) (by decide), cl (n := 8 * r + p + i) (by omega), nI_1, nI_1]
    simp only [bind_s]
    have n0 : vp_nar .boolean 0 = 0 := by decide
    have n1 : vp_nar .boolean 1 = 1 := by decide
    rw [n0, n1]
    by_cases c : w = 0
    · rw [if_pos c]
      show _ = some (Sum.inl (_, upd _ r _, upd _ _ _, upd _ _ (if w = 0 then 0 else if i + 1 = k then 1 else 0)))
      rw [if_pos c]
    · rw [if_neg c]
      show _ = some (Sum.inl (_, upd _ r _, upd _ _ _, upd _ _ (if w = 0 then 0 else if i + 1 = k then 1 else 0)))
      rw [if_neg c]
      by_cases c2 : i + 1 = k
      · rw [if_neg (show ¬ ¬ nI (i + 1) = nI k from not_not_intro (by rw [c2])), if_pos c2]
      · rw [if_pos (show ¬ nI (i + 1) = nI k from fun h => c2 ((nI_eq (by omega) (by omega)).mp h)), if_neg c2]
  · show shX7_drill_L98 (nI k) w (nI v) rock (nI (k + 1)) (moF w k pi pipe met r p k).1 (moF w k pi pipe met r p k).2.1 (moF w k pi pipe met r p k).2.2 = some (.inr (moF w k pi pipe met r p k))
    unfold shX7_drill_L98
    rw [if_pos (nI_lt (by omega) (by omega))]
theorem KC_run {w : Int32} {ps : Nat → Nat} {pi pipe met W B : Nat → Int32} (h : KC ps pipe met W B) {r k : Nat} (hr : r < 4) (hps : ∀ x, x < 4 → ps x ≤ 8) (hp : ps r + k ≤ 8) (hk : k ≤ 4) : ∀ i, i < k → KC (psA ps r i) (moF w k pi pipe met r (ps r) i).2.1 (moF w k pi pipe met r (ps r) i).2.2 W (brF B r i) := by
  intro i
  induction i with
  | zero => intro _; rw [psA_0]; exact h
  | succ i ih =>
    intro hi
    have ih := ih (by omega)
    have hq := KC_dry (r := r) (q := i) ih hr (fun x hx => by
      by_cases c : x = r
      · rw [c, psA_r]; omega
      · rw [psA_n c]; exact hps x hx) (by rw [psA_r]; omega) (by omega)
    rw [psA_1, psA_r] at hq
    have e : (if w = 0 then (0 : Int32) else if i + 1 = k then 1 else 0) = 0 := by
      by_cases c : w = 0
      · rw [if_pos c]
      · rw [if_neg c, if_neg (by omega)]
    show KC _ (upd _ (8 * r + ps r + i) (nI (i + 1))) (upd _ (8 * r + ps r + i) (if w = 0 then 0 else if i + 1 = k then 1 else 0)) W (upd _ _ _)
    rw [e, Nat.add_assoc]
    exact hq
theorem ah_c {w : Int32} {r k : Nat} (hr : r < 4) (hk : k < 4) (W B pi : Nat → Int32) : shX2_addHole (nI r) (nI (k + 1)) w W B pi = some (if w = 0 then W else upd W (4 * r + k) (W (4 * r + k) + 1), if w = 0 then upd (brF B r k) (4 * r + k) (brF B r k (4 * r + k) + 1) else brF B r k, upd pi r (pi r + nI (k + 1))) := by
  have e1 : ((nI r * (4 : Int32)) + nI (k + 1)) - 1 = nI (4 * r + k) := by rw [show (4 : Int32) = nI 4 from rfl, pk_mul, nI_add, show r * 4 + (k + 1) = (4 * r + k) + 1 by omega, nI_pred]
  unfold shX2_addHole shX2_addHole_j_38 shX2_addHole_j_67
  rw [bb_c hr hk, bind_s, e1, gd_nI (k := 4 * r + k) (by omega) (by decide), gd_nI (k := r) (by omega) (by decide), cl (n := 4 * r + k) (by omega), cl (n := r) (by omega)]
  simp only [bind_s]
  by_cases c : w = 0
  · rw [if_pos c, if_pos c, if_pos c]
  · rw [if_neg c, if_neg c, if_neg c]
theorem KC_last {w : Int32} {ps : Nat → Nat} {pi pipe met W B : Nat → Int32} (h : KC ps pipe met W B) {r k : Nat} (hr : r < 4) (hps : ∀ x, x < 4 → ps x ≤ 8) (hp : ps r + (k + 1) ≤ 8) (hk : k < 4) :
    KC (psA ps r (k + 1)) (moF w (k + 1) pi pipe met r (ps r) (k + 1)).2.1 (moF w (k + 1) pi pipe met r (ps r) (k + 1)).2.2 (if w = 0 then W else upd W (4 * r + k) (W (4 * r + k) + 1)) (if w = 0 then upd (brF B r k) (4 * r + k) (brF B r k (4 * r + k) + 1) else brF B r k) := by
  have ih := KC_run (w := w) (pi := pi) h hr hps hp (by omega) k (by omega)
  have hx : ∀ x, x < 4 → psA ps r k x ≤ 8 := fun x hx => by
    by_cases c : x = r
    · rw [c, psA_r]; omega
    · rw [psA_n c]; exact hps x hx
  show KC _ (upd _ (8 * r + ps r + k) (nI (k + 1))) (upd _ (8 * r + ps r + k) (if w = 0 then 0 else if k + 1 = k + 1 then 1 else 0)) _ _
  rw [Nat.add_assoc]
  by_cases c : w = 0
  · have hq := KC_dry (r := r) (q := k) ih hr hx (by rw [psA_r]; omega) hk
    rw [psA_1, psA_r] at hq
    rw [if_pos c, if_pos c, if_pos c]
    exact hq
  · have hq := KC_wet (r := r) (q := k) ih hr hx (by rw [psA_r]; omega) hk
    rw [psA_1, psA_r] at hq
    rw [if_neg c, if_neg c, if_neg c, if_pos rfl]
    exact hq
theorem psA_sum {ps : Nat → Nat} {r k : Nat} (hr : r < 4) : psA ps r k 0 + psA ps r k 1 + psA ps r k 2 + psA ps r k 3 = ps 0 + ps 1 + ps 2 + ps 3 + k := by
  have : r = 0 ∨ r = 1 ∨ r = 2 ∨ r = 3 := by omega
  rcases this with rfl | rfl | rfl | rfl <;> simp [psA] <;> omega
theorem iv_bad {rs vs : Int32} {vr vp vb vw ve vu : Nat → Int32} {mv : Int32} {mr mp mb mw me mu : Nat → Int32} (h : IV rs vs vr vp vb vw ve vu mv mr mp mb mw me mu) {n : Nat} (hvs : vs = nI n) (hn : n ≤ 7) {v0 : Nat} (h1 : 1 ≤ v0) (h2 : v0 ≤ n) : IV rs vs vr vp (upd vb v0 (vb v0 + 1)) vw ve vu mv mr mp (upd mb v0 (mb v0 + 1)) mw me mu := by
  obtain ⟨n', nr, hn', e1, e2, hnr, e3, hv⟩ := h
  have : n' = n := (nI_eq (by omega) (by omega)).mp (e1.symm.trans hvs)
  subst this
  refine ⟨n', nr, hn, e1, e2, hnr, e3, fun v a1 a2 => ?_⟩
  obtain ⟨b1, b2, b3, b4, b5, b6⟩ := hv v a1 a2
  refine ⟨b1, b2, ?_, b4, b5, b6⟩
  by_cases c : v = v0
  · rw [c, upd_s, upd_s, (hv v0 h1 h2).2.2.1]
  · rw [upd_n c, upd_n c, b3]
theorem iv_well {rs vs : Int32} {vr vp vb vw ve vu : Nat → Int32} {mv : Int32} {mr mp mb mw me mu : Nat → Int32} (h : IV rs vs vr vp vb vw ve vu mv mr mp mb mw me mu) {v0 k : Nat} (h1 : 1 ≤ k) (h2 : k ≤ 4) : IV rs vs vr vp vb (upd vw v0 (nI k)) ve vu mv mr mp mb (upd mw v0 (nI k)) me mu := by
  obtain ⟨n', nr, hn', e1, e2, hnr, e3, hv⟩ := h
  refine ⟨n', nr, hn', e1, e2, hnr, e3, fun v a1 a2 => ?_⟩
  obtain ⟨b1, b2, b3, b4, b5, b6⟩ := hv v a1 a2
  refine ⟨b1, b2, b3, ?_, b5, b6⟩
  by_cases c : v = v0
  · rw [c, upd_s, upd_s]; exact Or.inr ⟨k, h1, h2, rfl, rfl⟩
  · rw [upd_n c, upd_n c]; exact b4
theorem pu_hole {bn : Nat → Int32} {sa re : Nat} (u0 : bn 0 = nI sa) (u2 : bn 2 = nI re) (hre : re ≤ 9) {rs : Int32} {rp rc rw' rb rpi : Nat → Int32} {mr : Int32} {mp mpi mpipe mmet mch : Nat → Int32} {mall : Int32} (hK : IK rs rp rc rw' rb rpi mr mp mpi mpipe mmet mch mall) {vr vp vb vw ve vu : Nat → Int32} {mv : Int32} {xr xp xb xw xe xu : Nat → Int32} {n i d : Nat} (hV : IV rs (nI n) vr vp vb vw ve vu mv xr xp xb xw xe xu) (hd : d ≤ 9999) (hn : n ≤ 7) (i1 : 1 ≤ i) (hi : i ≤ n) {k : Nat} (hk : k < 4) (b c : Int32) :
    ∃ o o', shX6_drill_j_54 (nI (k + 1)) b c (nI i) (nI d) bn rw' rb rpi vr vb vw = some o ∧ shX7_drill_j_51 (nI (k + 1)) b c (nI sa) (nI re) (nI d) (nI i) mall mpi mpipe mmet xr xb xw 0 = some o' ∧ o.1 = o'.1 ∧ IK rs rp rc o.2.2.1 o.2.2.2.1 o.2.2.2.2.1 mr mp o'.2.2.2.2.1 o'.2.2.2.2.2.1 o'.2.2.2.2.2.2.1 mch o'.2.2.2.1 ∧ IV rs (nI n) vr vp o.2.2.2.2.2.1 o.2.2.2.2.2.2 ve vu mv xr xp o'.2.2.2.2.2.2.2.1 o'.2.2.2.2.2.2.2.2 xe xu ∧ IG (nI n) (nI i) o.2.1 (nI i) o'.2.2.1 := by
  have hK0 := hK
  have hV0 := hV
  obtain ⟨nk, ps, hnk, ers, emr, hpr, hch, hps, hp0, hpp, hct, rfl⟩ := hK
  obtain ⟨n', nr, hn', evs, emv, hnr, ers', hv⟩ := hV
  have enn : n' = n := (nI_eq (by omega) (by omega)).mp evs.symm
  subst enn
  have enk : nr = nk := (nI_eq (by omega) (by omega)).mp (ers'.symm.trans ers)
  subst enk
  obtain ⟨⟨b1, r, hr, b1'⟩, b2, b3, b4, b5, b6⟩ := hv i i1 hi
  have hG0 : IG (nI n') (nI i) (nI d) (nI i) (nI d) := ⟨i, d, n', rfl, hn, hi, hd, rfl, rfl, rfl, rfl⟩
  have x1 : xr i = nI r := b1.symm.trans b1'
  obtain ⟨p1, p2, p3⟩ := hps r (by omega)
  unfold shX6_drill_j_54 shX7_drill_j_51 shX4_rockOf shX0_rest shX2_hasRoom
  rw [gd_nI (k := i) (by omega) (by decide), cl (n := i) (by omega), b1', x1, show bn (2 : Int32).toNatClampNeg = nI re from u2]
  simp only [bind_s]
  rw [gd_nI (k := r) (by omega) (by decide), cl (n := r) (by omega), p2, p3, nI_add, nI_add, nI_add]
  simp only [bind_s]
  by_cases c8 : ps r + (k + 1) ≤ 8
  · rw [if_neg (show ¬ (8 : Int32) < nI (ps r + (k + 1)) from nlt (a := 8) c8 (by decide)), if_neg (show ¬ (8 : Int32) < nI (ps r + (k + 1)) from nlt (a := 8) c8 (by decide))]
    simp only [bind_s, i10]
    by_cases c9 : d + (k + 1) + re ≤ 9999
    · rw [if_pos (show nI (d + (k + 1) + re) ≤ (9999 : Int32) from nI_le (b := 9999) c9 (by decide)), if_pos (show nI (d + (k + 1) + re) ≤ (9999 : Int32) from nI_le (b := 9999) c9 (by decide))]
      rw [ah_c (by omega) hk, mo_m (by omega) (by omega) (by omega) c8 (by omega) x1 p3, bind_s, bind_s]
      have hKC : KC ps mpipe mmet rw' rb := ⟨hpp, hct⟩
      have hL := KC_last (w := b) (pi := mpi) hKC (r := r) (by omega) (fun x hx => (hps x hx).1) c8 hk
      have hK' : IK rs rp rc (if b = 0 then rw' else upd rw' (4 * r + k) (rw' (4 * r + k) + 1)) (if b = 0 then upd (brF rb r k) (4 * r + k) (brF rb r k (4 * r + k) + 1) else brF rb r k) (upd rpi r (rpi r + nI (k + 1))) mr mp (moF b (k + 1) mpi mpipe mmet r (ps r) (k + 1)).1 (moF b (k + 1) mpi mpipe mmet r (ps r) (k + 1)).2.1 (moF b (k + 1) mpi mpipe mmet r (ps r) (k + 1)).2.2 mch (nI (ps 0 + ps 1 + ps 2 + ps 3) + nI (k + 1)) := by
        refine ⟨nr, psA ps r (k + 1), hnk, ers, emr, hpr, hch, fun x hx => ?_, fun x hx => ?_, hL.1, hL.2, ?_⟩
        · by_cases e : x = r
          · subst e
            rw [psA_r, upd_s, p2, nI_add, mo_pi p3]
            exact ⟨c8, rfl, rfl⟩
          · rw [psA_n e, upd_n e, mo_pn e]
            exact hps x hx
        · rw [psA_n (by omega)]; exact hp0 x hx
        · rw [psA_sum (by omega), nI_add]
      have hd' : IG (nI n') (nI i) (nI (d + (k + 1) + re)) (nI i) (nI d + (nI (k + 1) + nI re)) := ⟨i, d + (k + 1) + re, n', rfl, hn, hi, c9, rfl, rfl, rfl, by rw [nI_add, nI_add]; congr 1; omega⟩
      have g8 : gd (nI i) 8 = some () := gd_nI (by omega) (by decide)
      have q8 : (nI i).toNatClampNeg = i := cl (by omega)
      unfold shX6_drill_j_152 shX7_drill_j_174 shX7_drill_j_223 shX4_addBadHole shX4_makeWell shX0_salt
      rw [g8, q8, show bn (0 : Int32).toNatClampNeg = nI sa from u0]
      simp only [bind_s]
      by_cases cb : b = 0
      · simp only [if_pos cb] at hK' ⊢
        exact ⟨_, _, rfl, rfl, rfl, hK', iv_bad hV0 rfl hn i1 hi, hd'⟩
      · simp only [if_neg cb] at hK' ⊢
        by_cases cs : nI sa < c
        · rw [if_pos cs, if_pos cs]
          exact ⟨_, _, rfl, rfl, rfl, hK', iv_bad hV0 rfl hn i1 hi, hd'⟩
        · rw [if_neg cs, if_neg cs]
          exact ⟨_, _, rfl, rfl, rfl, hK', iv_well hV0 (by omega) (by omega), hd'⟩
    · rw [if_neg (show ¬ nI (d + (k + 1) + re) ≤ (9999 : Int32) from nle (b := 9999) (by omega) (by omega)), if_neg (show ¬ nI (d + (k + 1) + re) ≤ (9999 : Int32) from nle (b := 9999) (by omega) (by omega))]
      exact ⟨_, _, rfl, rfl, rfl, hK0, hV0, hG0⟩
  · rw [if_pos (show (8 : Int32) < nI (ps r + (k + 1)) from nI_lt (a := 8) (by omega) (by omega)), if_pos (show (8 : Int32) < nI (ps r + (k + 1)) from nI_lt (a := 8) (by omega) (by omega))]
    simp only [bind_s, i00]
    exact ⟨_, _, rfl, rfl, rfl, hK0, hV0, hG0⟩
theorem pu_drill {bn : Nat → Int32} {salt dry rest : Int32} (hU : IU bn salt dry rest) {rs : Int32} {rp rc rw' rb rpi : Nat → Int32} {mr : Int32} {mp mpi mpipe mmet mch : Nat → Int32} {mall : Int32} (hK : IK rs rp rc rw' rb rpi mr mp mpi mpipe mmet mch mall) {vs : Int32} {vr vp vb vw ve vu : Nat → Int32} {mv : Int32} {xr xp xb xw xe xu : Nat → Int32} (hV : IV rs vs vr vp vb vw ve vu mv xr xp xb xw xe xu) {rgp day mat mday : Int32} (hG : IG vs rgp day mat mday) (a b c th : Int32) :
    ∃ o o', shX6_drill a b c rgp day bn rw' rb rpi vs vr vb vw = some o ∧ shX7_drill a b c th salt rest mday mat mall mpi mpipe mmet xr xb xw = some o' ∧ o.1 = o'.1 ∧ IK rs rp rc o.2.2.1 o.2.2.2.1 o.2.2.2.2.1 mr mp o'.2.2.2.2.1 o'.2.2.2.2.2.1 o'.2.2.2.2.2.2.1 mch o'.2.2.2.1 ∧ IV rs vs vr vp o.2.2.2.2.2.1 o.2.2.2.2.2.2 ve vu mv xr xp o'.2.2.2.2.2.2.2.1 o'.2.2.2.2.2.2.2.2 xe xu ∧ IG vs rgp o.2.1 mat o'.2.2.1 := by
  have hG0 := hG
  obtain ⟨i, d, n, rfl, hn, hi, hd, rfl, rfl, rfl, rfl⟩ := hG
  obtain ⟨u0, u1, u2, sa, da, re, hsa, hda, hre, rfl, rfl, rfl⟩ := hU
  have hv : ∀ v, 1 ≤ v → v ≤ n → ((vw v = -1 ∧ xw v = 0 ∧ ve v = -1 ∧ vu v = 0) ∨ ∃ k : Nat, 1 ≤ k ∧ k ≤ 4 ∧ vw v = nI k ∧ xw v = nI k) := by
    obtain ⟨n', nr, hn', evs, emv, hnr, ers', hv⟩ := hV
    have enn : n' = n := (nI_eq (by omega) (by omega)).mp evs.symm
    subst enn
    exact fun v h1 h2 => (hv v h1 h2).2.2.2.1
  unfold shX6_drill shX7_drill
  by_cases c0 : i = 0
  · subst c0
    rw [has4_f (x := nI 0) (Or.inl (by decide)), bind_s, if_pos rfl, if_pos (by decide)]
    exact ⟨_, _, rfl, rfl, rfl, hK, hV, hG0⟩
  · have i1 : 1 ≤ i := by omega
    unfold shX4_hasWell
    rw [has4_t i1 hi (by omega), if_neg (ne_0 i1 (by omega)), gd_nI (k := i) (by omega) (by decide), cl (by omega)]
    simp only [bind_s, i10]
    rcases hv i i1 hi with ⟨w1, w2, w3, w4⟩ | ⟨k0, k1, k2, w1, w2⟩
    · rw [if_pos w1, if_neg (show ¬ 0 < xw i by rw [w2]; decide)]
      simp only [bind_s, n00]
      rcases in1 a (n := 4) (by decide) with ha | ⟨k, hk1, hk2, rfl⟩
      · rw [dep_f ha]
        simp only [bind_s, n00]
        by_cases c1 : a < 1
        · rw [if_pos c1]; exact ⟨_, _, rfl, rfl, rfl, hK, hV, hG0⟩
        · rw [if_neg c1, if_pos (show (4 : Int32) < a from ha.resolve_left c1)]; exact ⟨_, _, rfl, rfl, rfl, hK, hV, hG0⟩
      · rw [dep_t hk1 hk2]
        simp only [bind_s, n10]
        rw [if_neg (nlt1 hk1 (by omega)), if_neg (show ¬ (4 : Int32) < nI k from nlt (a := 4) hk2 (by decide))]
        obtain ⟨k', rfl⟩ : ∃ k', k = k' + 1 := ⟨k - 1, by omega⟩
        have main := pu_hole u0 u2 hre hK hV hd hn i1 hi (k := k') (by omega) b c
        by_cases cb : b = 0
        · rw [if_pos cb, if_pos cb]; exact main
        · rw [if_neg cb, if_neg cb]
          by_cases c1 : c < 0
          · rw [if_pos c1, if_pos c1]; exact ⟨_, _, rfl, rfl, rfl, hK, hV, hG0⟩
          · rw [if_neg c1, if_neg c1]
            by_cases c2 : c ≤ 999
            · rw [if_pos c2, if_pos c2]; exact main
            · rw [if_neg c2, if_neg c2]; exact ⟨_, _, rfl, rfl, rfl, hK, hV, hG0⟩
    · rw [if_neg (show ¬ vw i = -1 by rw [w1]; exact ne_m1 (by omega)), if_pos (show 0 < xw i by rw [w2]; exact nI_lt (a := 0) (by omega) (by omega))]
      simp only [bind_s, n10]
      exact ⟨_, _, rfl, rfl, rfl, hK, hV, hG0⟩
