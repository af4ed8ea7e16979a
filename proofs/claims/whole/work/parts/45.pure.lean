/-! the weights of a rock -/
theorem lN0 : (0 : Int64) = lN 0 := by decide
theorem lN1 : (1 : Int64) = lN 1 := by decide
/-- the class's product: k kinds of pipe, each wet so often and dry so often -/
def wtP (p : Nat) (c wt dr : Nat → Nat) : Nat → Nat
  | 0 => p
  | k + 1 => wtP p c wt dr k * c k ^ wt k * (16 - c k) ^ dr k
/-- the reference's product: pipe by pipe -/
def mwP (p : Nat) (f : Nat → Nat) : Nat → Nat
  | 0 => p
  | i + 1 => mwP p f i * f i
theorem mw_le {p B : Nat} {f : Nat → Nat} (hf : ∀ i, f i ≤ B) : ∀ n, mwP p f n ≤ p * B ^ n := by
  intro n
  induction n with
  | zero => show p ≤ p * 1; omega
  | succ n ih =>
    show mwP p f n * f n ≤ p * (B ^ n * B)
    rw [← Nat.mul_assoc]
    exact Nat.mul_le_mul ih (hf n)
theorem we_45 {r q k m c X : Nat} (hr : r < 4) (hq : q < 3) (hk : k < 4) (hm : m < 2 ^ 31) {ch W : Nat → Int32} (hc : ch (4 * q + k) = nI c) (hc2 : c ≤ 15) (hw : W (4 * r + k) = nI m) : lp (fun s : Int64 × Int32 => shX2_weight_L45 (nI r) (nI q) ch W (nI k) s.1 s.2) (lN X, 0) = some (lN (X * c ^ m)) := by
  have e1 : (nI r * (4 : Int32)) + nI k = nI (4 * r + k) := by rw [show (4 : Int32) = nI 4 from rfl, pk_mul, nI_add, Nat.mul_comm]
  have e2 : (nI q * (4 : Int32)) + nI k = nI (4 * q + k) := by rw [show (4 : Int32) = nI 4 from rfl, pk_mul, nI_add, Nat.mul_comm]
  have key := lp_to (f := fun s : Int64 × Int32 => shX2_weight_L45 (nI r) (nI q) ch W (nI k) s.1 s.2) (fun i => (lN (X * c ^ i), nI i)) m (r := lN (X * c ^ m)) (fun i hi => by
    show shX2_weight_L45 (nI r) (nI q) ch W (nI k) (lN (X * c ^ i)) (nI i) = some (.inl (lN (X * c ^ (i + 1)), nI (i + 1)))
    unfold shX2_weight_L45
    rw [e1, e2, gd_nI (k := 4 * r + k) (by omega) (by decide), cl (n := 4 * r + k) (by omega), cl (n := 4 * q + k) (by omega), hc, hw, bind_s, if_neg (nI_ge hi (by omega)), nI_l (by omega), lN_mul, nI_1, Nat.pow_succ, Nat.mul_assoc]) (by
    show shX2_weight_L45 (nI r) (nI q) ch W (nI k) (lN (X * c ^ m)) (nI m) = some (.inr (lN (X * c ^ m)))
    unfold shX2_weight_L45
    rw [e1, gd_nI (k := 4 * r + k) (by omega) (by decide), cl (n := 4 * r + k) (by omega), hw, bind_s, if_pos (nI_le (Nat.le_refl _) hm)])
  rw [Nat.pow_zero, Nat.mul_one] at key
  exact key
theorem we_72 {j m c X : Nat} (hj : j < 16) (hm : m < 2 ^ 31) {B : Nat → Int32} (hc2 : c ≤ 15) (hw : B j = nI m) : lp (fun s : Int64 × Int32 => shX2_weight_L72 B (nI c) (nI j) s.1 s.2) (lN X, 0) = some (lN (X * (16 - c) ^ m)) := by
  have e2 : (16 : Int32) - nI c = nI (16 - c) := pk_sub (a := 16) (by omega)
  have key := lp_to (f := fun s : Int64 × Int32 => shX2_weight_L72 B (nI c) (nI j) s.1 s.2) (fun i => (lN (X * (16 - c) ^ i), nI i)) m (r := lN (X * (16 - c) ^ m)) (fun i hi => by
    show shX2_weight_L72 B (nI c) (nI j) (lN (X * (16 - c) ^ i)) (nI i) = some (.inl (lN (X * (16 - c) ^ (i + 1)), nI (i + 1)))
    unfold shX2_weight_L72
    rw [e2, gd_nI (k := j) (by omega) (by decide), cl (n := j) (by omega), hw, bind_s, if_neg (nI_ge hi (by omega)), nI_l (by omega), lN_mul, nI_1, Nat.pow_succ, Nat.mul_assoc]) (by
    show shX2_weight_L72 B (nI c) (nI j) (lN (X * (16 - c) ^ m)) (nI m) = some (.inr (lN (X * (16 - c) ^ m)))
    unfold shX2_weight_L72
    rw [gd_nI (k := j) (by omega) (by decide), cl (n := j) (by omega), hw, bind_s, if_pos (nI_le (Nat.le_refl _) hm)])
  rw [Nat.pow_zero, Nat.mul_one] at key
  exact key
theorem we_c {r q p : Nat} {c wt dr : Nat → Nat} (hr : r < 4) (hq : q < 3) {pr ch W B : Nat → Int32} (hp : pr (3 * r + q) = nI p) (hpp : p < 2 ^ 31) (hc : ∀ k, k < 4 → ch (4 * q + k) = nI (c k) ∧ c k ≤ 15) (hw : ∀ k, k < 4 → W (4 * r + k) = nI (wt k) ∧ wt k < 2 ^ 31 ∧ B (4 * r + k) = nI (dr k) ∧ dr k < 2 ^ 31) : shX2_weight (nI r) (nI q) pr ch W B = some (lN (wtP p c wt dr 4)) := by
  have e1 : (nI r * (3 : Int32)) + nI q = nI (3 * r + q) := by rw [show (3 : Int32) = nI 3 from rfl, pk_mul, nI_add, Nat.mul_comm]
  unfold shX2_weight shX2_weight_j_105
  rw [e1, gd_nI (k := 3 * r + q) (by omega) (by decide), cl (n := 3 * r + q) (by omega), hp, nI_l hpp, bind_s]
  have key : lp (fun s : Int64 × Int32 => shX2_weight_L15 (nI r) (nI q) ch W B s.1 s.2) (lN p, 0) = some (lN (wtP p c wt dr 4)) := by
    refine lp_to (fun i => (lN (wtP p c wt dr i), nI i)) 4 (fun k hk => ?_) ?_
    · show shX2_weight_L15 (nI r) (nI q) ch W B (lN (wtP p c wt dr k)) (nI k) = some (.inl (lN (wtP p c wt dr (k + 1)), nI (k + 1)))
      obtain ⟨h1, h2, h3, h4⟩ := hw k hk
      obtain ⟨h5, h6⟩ := hc k hk
      have e2 : (nI r * (4 : Int32)) + nI k = nI (4 * r + k) := by rw [show (4 : Int32) = nI 4 from rfl, pk_mul, nI_add, Nat.mul_comm]
      have e3 : (nI q * (4 : Int32)) + nI k = nI (4 * q + k) := by rw [show (4 : Int32) = nI 4 from rfl, pk_mul, nI_add, Nat.mul_comm]
      unfold shX2_weight_L15 shX2_weight_k15_69 shX2_weight_k15_99
      rw [if_neg (show ¬ (4 : Int32) ≤ nI k from nI_ge (b := 4) hk (by decide)), we_45 hr hq hk h2 h5 h6 h1, e2, e3, gd_nI (k := 4 * q + k) (by omega) (by decide), cl (n := 4 * q + k) (by omega), h5, bind_s, bind_s, we_72 (by omega) h4 h6 h3, bind_s, nI_1]
      rfl
    · show shX2_weight_L15 (nI r) (nI q) ch W B (lN (wtP p c wt dr 4)) (nI 4) = some (.inr (lN (wtP p c wt dr 4)))
      unfold shX2_weight_L15
      rw [if_pos (by decide)]
  rw [key, bind_s]
theorem updL_2 {f : Nat → Int64} {k : Nat} {x y : Int64} : vp_updL (vp_updL f k x) k y = vp_updL f k y := by
  funext j
  by_cases h : j = k
  · rw [h, pk_uLs, pk_uLs]
  · rw [pk_uLn h, pk_uLn h, pk_uLn h]
theorem we_m {r q p n : Nat} {c : Nat → Nat} (hr : r < 4) (hq : q < 3) (hn : n ≤ 8) {pi pipe met ch : Nat → Int32} (hpi : pi r = nI n) (hc : ∀ k, k < 4 → ch (5 * q + k + 1) = nI (c k) ∧ c k ≤ 15) (hp : ∀ i, i < n → ∃ k : Nat, 1 ≤ k ∧ k ≤ 4 ∧ pipe (8 * r + i) = nI k) (w : Nat → Int64) :
    lp (fun s : Int32 × (Nat → Int64) => shX7_weights_L33 (nI r) pi pipe met ch (nI q) s.1 s.2) (0, vp_updL w q (lN p)) = some (vp_updL w q (lN (mwP p (fun i => if met (8 * r + i) = 0 then 16 - c ((pipe (8 * r + i)).toNatClampNeg - 1) else c ((pipe (8 * r + i)).toNatClampNeg - 1)) n))) := by
  refine lp_to (fun i => (nI i, vp_updL w q (lN (mwP p (fun i => if met (8 * r + i) = 0 then 16 - c ((pipe (8 * r + i)).toNatClampNeg - 1) else c ((pipe (8 * r + i)).toNatClampNeg - 1)) i)))) n (fun i hi => ?_) ?_
  · show shX7_weights_L33 (nI r) pi pipe met ch (nI q) (nI i) (vp_updL w q (lN (mwP p (fun i => if met (8 * r + i) = 0 then 16 - c ((pipe (8 * r + i)).toNatClampNeg - 1) else c ((pipe (8 * r + i)).toNatClampNeg - 1)) i))) = some (.inl (nI (i + 1), vp_updL w q (lN (mwP p (fun i => if met (8 * r + i) = 0 then 16 - c ((pipe (8 * r + i)).toNatClampNeg - 1) else c ((pipe (8 * r + i)).toNatClampNeg - 1)) i * (if met (8 * r + i) = 0 then 16 - c ((pipe (8 * r + i)).toNatClampNeg - 1) else c ((pipe (8 * r + i)).toNatClampNeg - 1))))))
    generalize mwP p (fun i => if met (8 * r + i) = 0 then 16 - c ((pipe (8 * r + i)).toNatClampNeg - 1) else c ((pipe (8 * r + i)).toNatClampNeg - 1)) i = X
    obtain ⟨k, k1, k2, hk⟩ := hp i hi
    obtain ⟨k, rfl⟩ : ∃ k', k = k' + 1 := ⟨k - 1, by omega⟩
    obtain ⟨c1, c2⟩ := hc k (by omega)
    have e1 : (8 * nI r) + nI i = nI (8 * r + i) := by rw [show (8 : Int32) = nI 8 from rfl, pk_mul, nI_add]
    have e2 : (5 * nI q) + nI (k + 1) = nI (5 * q + k + 1) := by rw [show (5 : Int32) = nI 5 from rfl, pk_mul, nI_add]; rfl
    have e3 : (16 : Int32) - nI (c k) = nI (16 - c k) := pk_sub (a := 16) (by omega)
    unfold shX7_weights_L33 shX7_weights_k33_103
    rw [e1, cl (n := 8 * r + i) (by omega), hk, e2, cl (n := 5 * q + k + 1) (by omega), c1, e3, nI_l (n := 16 - c k) (by omega), nI_l (n := c k) (by omega), cl (n := q) (by omega), pk_uLs, cl (n := r) (by omega), hpi, gd_nI (k := r) (by omega) (by decide), gd_nI (k := 8 * r + i) (by omega) (by decide), gd_nI (k := 5 * q + k + 1) (by omega) (by decide), gd_nI (k := q) (by omega) (by decide), cl (n := k + 1) (by omega), lN_mul, lN_mul, updL_2, updL_2, nI_1]
    simp only [bind_s, Nat.add_sub_cancel]
    rw [if_neg (nI_ge hi (by omega))]
    by_cases cm : met (8 * r + i) = 0
    · rw [if_pos cm, if_pos cm]
    · rw [if_neg cm, if_neg cm]
  · show shX7_weights_L33 (nI r) pi pipe met ch (nI q) (nI n) _ = _
    unfold shX7_weights_L33
    rw [gd_nI (k := r) (by omega) (by decide), cl (n := r) (by omega), hpi, bind_s, if_pos (nI_le (Nat.le_refl _) (by omega))]
/-- both products are the same -/
theorem we_eq {r p : Nat} {c : Nat → Nat} {pipe met : Nat → Int32} : ∀ n, (∀ i, i < n → (∃ k : Nat, 1 ≤ k ∧ k ≤ 4 ∧ pipe (8 * r + i) = nI k)) → mwP p (fun i => if met (8 * r + i) = 0 then 16 - c ((pipe (8 * r + i)).toNatClampNeg - 1) else c ((pipe (8 * r + i)).toNatClampNeg - 1)) n = wtP p c (fun k => cnt (cWet pipe met r k) n) (fun k => cnt (cDry pipe met r k) n) 4 := by
  intro n
  induction n with
  | zero => intro _; simp [mwP, wtP, cnt]
  | succ n ih =>
    intro h
    have ih := ih (fun i hi => h i (by omega))
    show mwP p _ n * (if met (8 * r + n) = 0 then 16 - c ((pipe (8 * r + n)).toNatClampNeg - 1) else c ((pipe (8 * r + n)).toNatClampNeg - 1)) = _
    rw [ih]
    obtain ⟨k0, k1, k2, hk⟩ := h n (by omega)
    have hw : ∀ k, cnt (cWet pipe met r k) (n + 1) = cnt (cWet pipe met r k) n + (if (decide (nI k0 = nI (k + 1)) && !decide (met (8 * r + n) = 0)) = true then 1 else 0) := fun k => by
      show cnt (cWet pipe met r k) n + (if cWet pipe met r k n = true then 1 else 0) = _
      simp only [cWet, hk]
    have hd : ∀ k, cnt (cDry pipe met r k) (n + 1) = cnt (cDry pipe met r k) n + (if (decide (nI k0 = nI (k + 1)) && decide (met (8 * r + n) = 0)) = true then 1 else 0) := fun k => by
      show cnt (cDry pipe met r k) n + (if cDry pipe met r k n = true then 1 else 0) = _
      simp only [cDry, hk]
    simp only [wtP, hw, hd, hk]
    generalize cnt (cWet pipe met r 0) n = w0
    generalize cnt (cWet pipe met r 1) n = w1
    generalize cnt (cWet pipe met r 2) n = w2
    generalize cnt (cWet pipe met r 3) n = w3
    generalize cnt (cDry pipe met r 0) n = d0
    generalize cnt (cDry pipe met r 1) n = d1
    generalize cnt (cDry pipe met r 2) n = d2
    generalize cnt (cDry pipe met r 3) n = d3
    have t1 : nI (0 + 1) = nI 1 := rfl
    have hx : k0 = 1 ∨ k0 = 2 ∨ k0 = 3 ∨ k0 = 4 := by omega
    have n12 : ¬ nI 1 = nI 2 := by decide
    have n13 : ¬ nI 1 = nI 3 := by decide
    have n14 : ¬ nI 1 = nI 4 := by decide
    have n21 : ¬ nI 2 = nI 1 := by decide
    have n23 : ¬ nI 2 = nI 3 := by decide
    have n24 : ¬ nI 2 = nI 4 := by decide
    have n31 : ¬ nI 3 = nI 1 := by decide
    have n32 : ¬ nI 3 = nI 2 := by decide
    have n34 : ¬ nI 3 = nI 4 := by decide
    have n41 : ¬ nI 4 = nI 1 := by decide
    have n42 : ¬ nI 4 = nI 2 := by decide
    have n43 : ¬ nI 4 = nI 3 := by decide
    by_cases cm : met (8 * r + n) = 0
    · rcases hx with rfl | rfl | rfl | rfl <;> simp [cm, cl, n12, n13, n14, n21, n23, n24, n31, n32, n34, n41, n42, n43, Nat.pow_succ] <;> ac_rfl
    · rcases hx with rfl | rfl | rfl | rfl <;> simp [cm, cl, n12, n13, n14, n21, n23, n24, n31, n32, n34, n41, n42, n43, Nat.pow_succ] <;> ac_rfl
theorem wa_c {r : Nat} {Wq : Nat → Nat} {pr ch W B : Nat → Int32} (h : ∀ q, q < 3 → shX2_weight (nI r) (nI q) pr ch W B = some (lN (Wq q))) : shX2_allWeights (nI r) pr ch W B = some (lN (Wq 0 + Wq 1 + Wq 2)) := by
  have key : lp (fun s : Int64 × Int32 => shX2_allWeights_L5 (nI r) pr ch W B s.1 s.2) ((0 : Int64), 0) = some (lN (sPi Wq 3)) := by
    refine lp_to (fun i => (lN (sPi Wq i), nI i)) 3 (fun k hk => ?_) ?_
    · show shX2_allWeights_L5 (nI r) pr ch W B (lN (sPi Wq k)) (nI k) = some (.inl (lN (sPi Wq k + Wq k), nI (k + 1)))
      unfold shX2_allWeights_L5
      rw [if_neg (show ¬ (3 : Int32) ≤ nI k from nI_ge (b := 3) hk (by decide)), h k hk, bind_s, lN_add, nI_1]
    · show shX2_allWeights_L5 (nI r) pr ch W B (lN (sPi Wq 3)) (nI 3) = some (.inr (lN (sPi Wq 3)))
      unfold shX2_allWeights_L5
      rw [if_pos (by decide)]
  unfold shX2_allWeights shX2_allWeights_j_27
  rw [key, bind_s]
  show some (lN (0 + Wq 0 + Wq 1 + Wq 2)) = _
  rw [Nat.zero_add]
def wsA (w : Nat → Int64) (Wq : Nat → Nat) : Nat → Nat → Int64
  | 0 => w
  | i + 1 => vp_updL (wsA w Wq i) i (lN (Wq i))
theorem wa_m {r n : Nat} {p : Nat → Nat} {c : Nat → Nat → Nat} (hr : r < 4) (hn : n ≤ 8) {pr pi pipe met ch : Nat → Int32} (hpi : pi r = nI n) (hpr : ∀ q, q < 3 → pr (3 * r + q) = nI (p q) ∧ p q ≤ 99) (hc : ∀ q, q < 3 → ∀ k, k < 4 → ch (5 * q + k + 1) = nI (c q k) ∧ c q k ≤ 15) (hp : ∀ i, i < n → ∃ k : Nat, 1 ≤ k ∧ k ≤ 4 ∧ pipe (8 * r + i) = nI k) (w : Nat → Int64) {Wq : Nat → Nat} (hW : ∀ q, q < 3 → Wq q = mwP (p q) (fun i => if met (8 * r + i) = 0 then 16 - c q ((pipe (8 * r + i)).toNatClampNeg - 1) else c q ((pipe (8 * r + i)).toNatClampNeg - 1)) n) :
    shX7_weights (nI r) pr pi pipe met ch w = some (lN (Wq 0 + Wq 1 + Wq 2), wsA w Wq 3) := by
  have key : lp (fun s : Int64 × Int32 × (Nat → Int64) => shX7_weights_L5 (nI r) pr pi pipe met ch s.1 s.2.1 s.2.2) ((0 : Int64), 0, w) = some (lN (sPi Wq 3), wsA w Wq 3) := by
    refine lp_to (fun i => (lN (sPi Wq i), nI i, wsA w Wq i)) 3 (fun q hq => ?_) ?_
    · show shX7_weights_L5 (nI r) pr pi pipe met ch (lN (sPi Wq q)) (nI q) (wsA w Wq q) = some (.inl (lN (sPi Wq q + Wq q), nI (q + 1), vp_updL (wsA w Wq q) q (lN (Wq q))))
      have e1 : (3 * nI r) + nI q = nI (3 * r + q) := by rw [show (3 : Int32) = nI 3 from rfl, pk_mul, nI_add]
      unfold shX7_weights_L5 shX7_weights_k5_111
      rw [if_neg (show ¬ (3 : Int32) ≤ nI q from nI_ge (b := 3) hq (by decide)), e1, gd_nI (k := 3 * r + q) (by omega) (by decide), cl (n := 3 * r + q) (by omega), (hpr q hq).1, nI_l (by have := (hpr q hq).2; omega), gd_nI (k := q) (by omega) (by decide), cl (n := q) (by omega), we_m hr hq hn hpi (hc q hq) hp, ← hW q hq, nI_1]
      simp only [bind_s]
      rw [pk_uLs, lN_add]
    · show shX7_weights_L5 (nI r) pr pi pipe met ch (lN (sPi Wq 3)) (nI 3) (wsA w Wq 3) = some (.inr (lN (sPi Wq 3), wsA w Wq 3))
      unfold shX7_weights_L5
      rw [if_pos (by decide)]
  unfold shX7_weights shX7_weights_j_127
  rw [key, bind_s]
  show some (lN (0 + Wq 0 + Wq 1 + Wq 2), _) = _
  rw [Nat.zero_add]
theorem wsA_at {w : Nat → Int64} {Wq : Nat → Nat} {q : Nat} (hq : q < 3) : wsA w Wq 3 q = lN (Wq q) := by
  have : q = 0 ∨ q = 1 ∨ q = 2 := by omega
  rcases this with rfl | rfl | rfl
  · show vp_updL (vp_updL (vp_updL _ _ _) _ _) _ _ 0 = _
    rw [pk_uLn (by decide), pk_uLn (by decide), pk_uLs]
  · show vp_updL (vp_updL (vp_updL _ _ _) _ _) _ _ 1 = _
    rw [pk_uLn (by decide), pk_uLs]
  · show vp_updL (vp_updL (vp_updL _ _ _) _ _) _ _ 2 = _
    rw [pk_uLs]
/-- the weights of rock r, as both have them -/
theorem pu_weights {rs : Int32} {rp rc rw' rb rpi : Nat → Int32} {mr : Int32} {mp mpi mpipe mmet mch : Nat → Int32} {mall : Int32} (hK : IK rs rp rc rw' rb rpi mr mp mpi mpipe mmet mch mall) {n r : Nat} (ers : rs = nI n) (hn : n ≤ 4) (hr : r < n) :
    ∃ (Wq : Nat → Nat) (c : Nat → Nat → Nat), (∀ q, q < 3 → Wq q ≤ 425201762304) ∧ (∀ q, q < 3 → shX2_weight (nI r) (nI q) rp rc rw' rb = some (lN (Wq q))) ∧ shX2_allWeights (nI r) rp rc rw' rb = some (lN (Wq 0 + Wq 1 + Wq 2)) ∧ (∀ w, shX7_weights (nI r) mp mpi mpipe mmet mch w = some (lN (Wq 0 + Wq 1 + Wq 2), wsA w Wq 3)) ∧ (∀ q, q < 3 → ∀ k, k < 4 → rc (4 * q + k) = nI (c q k) ∧ mch (5 * q + k + 1) = nI (c q k) ∧ c q k ≤ 15) := by
  obtain ⟨nk, ps, hnk, ers', emr, hpr, hch, hps, hp0, hpp, hct, emall⟩ := hK
  have enk : nk = n := (nI_eq (by omega) (by omega)).mp (ers'.symm.trans ers)
  subst enk
  obtain ⟨p1, p2, p3⟩ := hps r (by omega)
  obtain ⟨C, hC⟩ : ∃ C : Nat → Nat → Nat, ∀ q, q < 3 → ∀ k, C q k ≤ 15 ∧ (k < 4 → rc (4 * q + k) = nI (C q k) ∧ mch (5 * q + k + 1) = nI (C q k)) := by
    refine ⟨fun q k => if k < 4 then (rc (4 * q + k)).toNatClampNeg else 0, fun q hq k => ?_⟩
    by_cases hk : k < 4
    · simp only [if_pos hk]
      obtain ⟨h1, a, ha, h2⟩ := hch q k hq hk
      have h3 : (rc (4 * q + k)).toNatClampNeg = a := by rw [h2, cl (by omega)]
      rw [h3, ← h1, h2]
      exact ⟨ha, fun _ => ⟨rfl, rfl⟩⟩
    · simp only [if_neg hk]
      exact ⟨by omega, fun h => absurd h hk⟩
  obtain ⟨P, hP⟩ : ∃ P : Nat → Nat, ∀ q, q < 3 → P q ≤ 99 ∧ rp (3 * r + q) = nI (P q) ∧ mp (3 * r + q) = nI (P q) := by
    refine ⟨fun q => (rp (3 * r + q)).toNatClampNeg, fun q hq => ?_⟩
    obtain ⟨h1, a, ha1, ha, h2⟩ := hpr (3 * r + q) (by omega)
    have h3 : (rp (3 * r + q)).toNatClampNeg = a := by rw [h2, cl (by omega)]
    simp only [h3]
    rw [← h1, h2]
    exact ⟨ha, rfl, rfl⟩
  have hpi : ∀ i, i < ps r → ∃ k : Nat, 1 ≤ k ∧ k ≤ 4 ∧ mpipe (8 * r + i) = nI k := fun i hi => (hpp r i (by omega) hi).1
  have h1 : ∀ q, q < 3 → shX2_weight (nI r) (nI q) rp rc rw' rb = some (lN (mwP (P q) (fun i => if mmet (8 * r + i) = 0 then 16 - C q ((mpipe (8 * r + i)).toNatClampNeg - 1) else C q ((mpipe (8 * r + i)).toNatClampNeg - 1)) (ps r))) := fun q hq => by
    rw [we_eq (c := C q) (ps r) hpi]
    refine we_c (by omega) hq (hP q hq).2.1 (by have := (hP q hq).1; omega) (fun k hk => ⟨((hC q hq k).2 hk).1, (hC q hq k).1⟩) (fun k hk => ?_)
    obtain ⟨g1, g2⟩ := hct r k (by omega) hk
    have l1 := cnt_le (cWet mpipe mmet r k) (ps r)
    have l2 := cnt_le (cDry mpipe mmet r k) (ps r)
    exact ⟨g1, by omega, g2, by omega⟩
  refine ⟨fun q => mwP (P q) (fun i => if mmet (8 * r + i) = 0 then 16 - C q ((mpipe (8 * r + i)).toNatClampNeg - 1) else C q ((mpipe (8 * r + i)).toNatClampNeg - 1)) (ps r), C, ?_, h1, wa_c h1, ?_, ?_⟩
  · intro q hq
    have hb := mw_le (p := P q) (B := 16) (f := fun i => if mmet (8 * r + i) = 0 then 16 - C q ((mpipe (8 * r + i)).toNatClampNeg - 1) else C q ((mpipe (8 * r + i)).toNatClampNeg - 1)) (fun i => by
      have := (hC q hq ((mpipe (8 * r + i)).toNatClampNeg - 1)).1
      split <;> omega) (ps r)
    refine Nat.le_trans hb (Nat.le_trans (Nat.mul_le_mul (hP q hq).1 (Nat.pow_le_pow_right (by decide) p1)) (by decide))
  · intro w
    exact wa_m (p := P) (c := C) (by omega) p1 p3 (fun q hq => ⟨(hP q hq).2.2, (hP q hq).1⟩) (fun q hq k hk => ⟨((hC q hq k).2 hk).2, (hC q hq k).1⟩) hpi w (fun q hq => rfl)
  · intro q hq k hk
    exact ⟨((hC q hq k).2 hk).1, ((hC q hq k).2 hk).2, (hC q hq k).1⟩
/-! the greatest common divisor -/
theorem gq_t {b : Nat} (h0 : 0 < b) (hb : b < 2 ^ 63) : gq (lN b) = some () := gq_of (by rw [lN0, pk_lEQ hb (by decide)]; omega)
theorem ne_L0 {b : Nat} (h0 : 0 < b) (hb : b < 2 ^ 63) : ¬ lN b = (0 : Int64) := by rw [lN0, pk_lEQ hb (by decide)]; omega
theorem gc_half {y z : Nat} (hz : 0 < z) (h : z < y) : 2 * (y % z) < y := by
  have h1 := Nat.mod_lt y hz
  have h2 := Nat.div_add_mod y z
  have h3 : 1 ≤ y / z := Nat.div_pos (by omega) hz
  have h4 : z ≤ z * (y / z) := Nat.le_mul_of_pos_right z h3
  omega
theorem gc_c : ∀ (m x y j : Nat), x < 2 ^ 63 → y < 2 ^ m → m ≤ 63 → j + 2 * m + 2 ≤ 200 → lp (fun s : Int64 × Int64 × Int32 => shX6_commonDivisor_L9 s.1 s.2.1 s.2.2) (lN x, lN y, nI j) = some (lN (Nat.gcd x y)) := by
  have end0 : ∀ (x j : Nat), j < 200 → lp (fun s : Int64 × Int64 × Int32 => shX6_commonDivisor_L9 s.1 s.2.1 s.2.2) (lN x, lN 0, nI j) = some (lN (Nat.gcd x 0)) := fun x j hj => lp_inr (by
    show shX6_commonDivisor_L9 (lN x) (lN 0) (nI j) = _
    unfold shX6_commonDivisor_L9
    rw [if_neg (show ¬ (200 : Int32) ≤ nI j from nI_ge (b := 200) hj (by decide)), if_pos (show lN 0 = (0 : Int64) from lN0.symm), Nat.gcd_zero_right])
  have step : ∀ (x y j : Nat), j < 200 → x < 2 ^ 63 → 0 < y → y < 2 ^ 63 → lp (fun s : Int64 × Int64 × Int32 => shX6_commonDivisor_L9 s.1 s.2.1 s.2.2) (lN x, lN y, nI j) = lp (fun s : Int64 × Int64 × Int32 => shX6_commonDivisor_L9 s.1 s.2.1 s.2.2) (lN y, lN (x % y), nI (j + 1)) := fun x y j hj hx h0 hy => lp_inl (by
    show shX6_commonDivisor_L9 (lN x) (lN y) (nI j) = _
    unfold shX6_commonDivisor_L9
    rw [if_neg (show ¬ (200 : Int32) ≤ nI j from nI_ge (b := 200) hj (by decide)), if_neg (ne_L0 h0 hy), gq_t h0 hy, pk_lRem hx h0 hy, nI_1]
    rfl)
  intro m
  induction m with
  | zero =>
    intro x y j hx hy _ hj
    have : y = 0 := by omega
    subst this
    exact end0 x j (by omega)
  | succ m ih =>
    intro x y j hx hy hm hj
    have hy63 : y < 2 ^ 63 := Nat.lt_of_lt_of_le hy (Nat.pow_le_pow_right (by decide) hm)
    rcases Nat.eq_zero_or_pos y with h0 | h0
    · subst h0; exact end0 x j (by omega)
    · rw [step x y j (by omega) hx h0 hy63, Nat.gcd_comm x y, Nat.gcd_rec y x]
      have hz := Nat.mod_lt x h0
      rcases Nat.eq_zero_or_pos (x % y) with hz0 | hz0
      · rw [hz0, end0 y (j + 1) (by omega), Nat.gcd_comm]
      · rw [step y (x % y) (j + 1) (by omega) hy63 hz0 (by omega), ih (x % y) (y % (x % y)) (j + 1 + 1) (by omega) (by have := gc_half hz0 hz; rw [Nat.pow_succ] at hy; omega) (by omega) (by omega), Nat.gcd_comm (x % y) y, Nat.gcd_comm (x % y) (y % (x % y)), ← Nat.gcd_rec (x % y) y, Nat.gcd_comm]
theorem gc_m : ∀ (n x y : Nat), y < n → x < 2 ^ 63 → y < 2 ^ 63 → lp (fun s : Int64 × Int64 => shX7_divisor_L6 s.1 s.2) (lN x, lN y) = some (lN (Nat.gcd x y)) := by
  intro n
  induction n with
  | zero => intro x y h; omega
  | succ n ih =>
    intro x y hn hx hy
    rcases Nat.eq_zero_or_pos y with h0 | h0
    · subst h0
      refine lp_inr ?_
      show shX7_divisor_L6 (lN x) (lN 0) = _
      unfold shX7_divisor_L6
      rw [if_pos (show lN 0 = (0 : Int64) from lN0.symm), Nat.gcd_zero_right]
    · have hz := Nat.mod_lt x h0
      have st : lp (fun s : Int64 × Int64 => shX7_divisor_L6 s.1 s.2) (lN x, lN y) = lp (fun s : Int64 × Int64 => shX7_divisor_L6 s.1 s.2) (lN y, lN (x % y)) := lp_inl (by
        show shX7_divisor_L6 (lN x) (lN y) = _
        unfold shX7_divisor_L6
        rw [if_neg (ne_L0 h0 hy), gq_t h0 hy, pk_lRem hx h0 hy]
        rfl)
      rw [st, ih y (x % y) (by omega) hy (by omega), Nat.gcd_comm x y, Nat.gcd_rec y x, Nat.gcd_comm]
theorem cd_c {x y : Nat} (hx : x < 2 ^ 63) (hy : y < 2 ^ 63) : shX6_commonDivisor (lN x) (lN y) = some (lN (Nat.gcd x y)) := by
  unfold shX6_commonDivisor shX6_commonDivisor_j_45
  rw [show ((lN x, lN y, (0 : Int32)) : Int64 × Int64 × Int32) = (lN x, lN y, nI 0) from rfl, gc_c 63 x y 0 hx hy (by omega) (by omega), bind_s]
theorem dv_m {x y : Nat} (hx : x < 2 ^ 63) (hy : y < 2 ^ 63) : shX7_divisor (lN x) (lN y) = some (lN (Nat.gcd x y)) := by
  unfold shX7_divisor shX7_divisor_j_31
  rw [gc_m (y + 1) x y (by omega) hx hy, bind_s]
theorem lt_c {x y : Nat} (hx : x < 2 ^ 63) (hy : y < 2 ^ 63) (h0 : 0 < y) (a : Int32) : shX6_leastTerm (lN x) (lN y) a = some (if ¬ a = 0 then lN (y / Nat.gcd x y) else lN (x / Nat.gcd x y)) := by
  have g0 : 0 < Nat.gcd x y := Nat.gcd_pos_of_pos_right x h0
  have g1 : Nat.gcd x y < 2 ^ 63 := Nat.lt_of_le_of_lt (Nat.gcd_le_right x h0) hy
  unfold shX6_leastTerm
  rw [cd_c hx hy, bind_s, if_pos (ne_L0 g0 g1), gq_t g0 g1, pk_lDiv hx g0 g1, pk_lDiv hy g0 g1]
  by_cases c : ¬ a = 0
  · rw [if_pos c, if_pos c]; rfl
  · rw [if_neg c, if_neg c]; rfl
/-! likely -/
theorem pu_likely {rs : Int32} {rp rc rw' rb rpi : Nat → Int32} {mr : Int32} {mp mpi mpipe mmet mch : Nat → Int32} {mall : Int32} (hK : IK rs rp rc rw' rb rpi mr mp mpi mpipe mmet mch mall) (a b z th : Int32) (w : Nat → Int64) :
    ∃ o o', shX6_likely a b z rs rp rc rw' rb = some o ∧ shX7_likely a b z th mr mp mpi mpipe mmet mch w = some o' ∧ o = o'.1 := by
  have hK0 := hK
  obtain ⟨n, ps, hn, rfl, rfl, -⟩ := hK
  unfold shX6_likely shX7_likely
  rcases in0' a (n := n) (by omega) with ha | ⟨r, hr, rfl⟩
  · rw [has2_f ha, bind_s, if_pos rfl]
    by_cases c : a < 0
    · rw [if_pos c]; exact ⟨_, _, rfl, rfl, rfl⟩
    · rw [if_neg c, if_pos (ha.resolve_left c)]; exact ⟨_, _, rfl, rfl, rfl⟩
  · rw [has2_t hr (by omega), bind_s, if_neg (by decide), if_neg (nlt0 (by omega)), if_neg (nI_ge hr (by omega))]
    rcases in0' b (n := 3) (by decide) with hb | ⟨q, hq, rfl⟩
    · rw [qual_f hb, bind_s, if_pos rfl]
      by_cases c : b < 0
      · rw [if_pos c]; exact ⟨_, _, rfl, rfl, rfl⟩
      · have h3 : (2 : Int32) < b := by
          have := hb.resolve_left c
          rw [leI, show (nI 3).toInt = 3 from rfl] at this
          rw [ltI, show (2 : Int32).toInt = 2 from rfl]; omega
        rw [if_neg c, if_pos h3]; exact ⟨_, _, rfl, rfl, rfl⟩
    · rw [qual_t hq, bind_s, if_neg (by decide), if_neg (nlt0 (by omega)), if_neg (show ¬ (2 : Int32) < nI q from nlt (a := 2) (by omega) (by decide))]
      by_cases c0 : z < 0
      · rw [if_pos c0, if_pos c0]; exact ⟨_, _, rfl, rfl, rfl⟩
      · rw [if_neg c0, if_neg c0]
        by_cases c1 : z ≤ 1
        · rw [if_pos c1, if_pos c1]
          obtain ⟨Wq, C, hb, h1, h2, h3, -⟩ := pu_weights hK0 rfl hn hr
          have b0 := hb 0 (by omega)
          have b1 := hb 1 (by omega)
          have b2 := hb 2 (by omega)
          have bq := hb q hq
          rw [h2, h3 w, h1 q hq]
          simp only [bind_s]
          rcases Nat.eq_zero_or_pos (Wq 0 + Wq 1 + Wq 2) with h0 | h0
          · rw [h0, if_neg (not_not_intro lN0.symm), if_neg (not_not_intro lN0.symm)]
            exact ⟨_, _, rfl, rfl, rfl⟩
          · have hlt : Wq 0 + Wq 1 + Wq 2 < 2 ^ 63 := by omega
            have hltq : Wq q < 2 ^ 63 := by omega
            have g0 : 0 < Nat.gcd (Wq q) (Wq 0 + Wq 1 + Wq 2) := Nat.gcd_pos_of_pos_right _ h0
            have g1 : Nat.gcd (Wq q) (Wq 0 + Wq 1 + Wq 2) < 2 ^ 63 := Nat.lt_of_le_of_lt (Nat.gcd_le_right _ h0) hlt
            rw [if_pos (ne_L0 h0 hlt), if_pos (ne_L0 h0 hlt), lt_c hltq hlt h0, gd_nI (k := q) (by omega) (by decide), cl (n := q) (by omega)]
            simp only [bind_s]
            rw [wsA_at hq, dv_m hltq hlt, bind_s, gq_t g0 g1, pk_lDiv hltq g0 g1, pk_lDiv hlt g0 g1]
            simp only [bind_s]
            by_cases c : ¬ z = 0
            · rw [if_pos c, if_pos c]; exact ⟨_, _, rfl, rfl, rfl⟩
            · rw [if_neg c, if_neg c]; exact ⟨_, _, rfl, rfl, rfl⟩
        · rw [if_neg c1, if_neg c1]; exact ⟨_, _, rfl, rfl, rfl⟩
