/-! plan: the order -/
theorem bs_c {wd : Nat → Int32} {n S p : Nat} (hn : n ≤ 7) (hS : S < 128) (h0 : S ≠ 0) (hr : rS (stp wd) n S p < 1000) : ∃ v, 1 ≤ v ∧ v ≤ n ∧ tb S v = true ∧ stp wd p v + rS (stp wd) n (clr S v) v = rS (stp wd) n S p ∧ ∀ u, 1 ≤ u → u < v → ¬ (tb S u = true ∧ stp wd p u + rS (stp wd) n (clr S u) u = rS (stp wd) n S p) := by
  have hex : ∃ v, (1 ≤ v ∧ v ≤ n) ∧ tb S v = true ∧ stp wd p v + rS (stp wd) n (clr S v) v = rS (stp wd) n S p := by
    have e := rS_s (s := stp wd) (p := p) hn hS h0
    rcases mnv_at (b := tb S) (c := fun v => stp wd p v + rS (stp wd) n (clr S v) v) n with h | ⟨v, h1, h2, h3, h4⟩
    · rw [h] at e; omega
    · exact ⟨v, ⟨h1, h2⟩, h3, by rw [e, h4]⟩
  obtain ⟨v, ⟨⟨v1, v2⟩, v3, v4⟩, v5⟩ := pk_least _ hex
  exact ⟨v, v1, v2, v3, v4, fun u u1 u2 h => v5 u u2 ⟨⟨u1, by omega⟩, h⟩⟩
theorem fs_c {wd mw steps roads : Nat → Int32} (hY : IY wd mw) {n S p v : Nat} (hn : n ≤ 7) (hS : S < 128) (hp : p ≤ n) (hb : ∀ v, 1 ≤ v → v ≤ 7 → tb S v = true → v ≤ n) (hst : ∀ v, v ≤ n → steps (8 * p + v) = nI (stp wd p v)) (hro : roads (8 * S + p) = nI (rS (stp wd) n S p)) (hroc : ∀ v, 1 ≤ v → v ≤ n → tb S v = true → roads (8 * clr S v + v) = nI (rS (stp wd) n (clr S v) v)) (h1 : 1 ≤ v) (h2 : v ≤ n) (ht : tb S v = true) (he : stp wd p v + rS (stp wd) n (clr S v) v = rS (stp wd) n S p) (hl : ∀ u, 1 ≤ u → u < v → ¬ (tb S u = true ∧ stp wd p u + rS (stp wd) n (clr S u) u = rS (stp wd) n S p)) : shX1_firstStop (nI S) (nI p) roads steps = some (nI v) := by
  have e1 : (nI S * (8 : Int32)) + nI p = nI (8 * S + p) := by rw [show (8 : Int32) = nI 8 from rfl, pk_mul, nI_add, Nat.mul_comm]
  have hrl := rS_le (s := stp wd) (p := p) hn hS
  have body : ∀ u, 1 ≤ u → u ≤ 7 → shX1_firstStop_L15 (nI S) (nI p) roads steps (nI u) = some (if tb S u = true ∧ stp wd p u + rS (stp wd) n (clr S u) u = rS (stp wd) n S p then .inr (.inl (nI u)) else .inl (nI (u + 1))) := fun u u1 u2 => by
    obtain ⟨i, rfl⟩ : ∃ i, u = i + 1 := ⟨u - 1, by omega⟩
    unfold shX1_firstStop_L15 shX1_firstStop_k15_47 shX1_bit
    rw [if_neg (show ¬ (8 : Int32) ≤ nI (i + 1) from nI_ge (b := 8) (by omega) (by decide)), bind_s, e1, cl (n := 8 * S + p) (by omega), hro, nI_1]
    by_cases c : tb S (i + 1) = true
    · have hc : ¬ (nI S &&& bI (nI (i + 1))) = 0 := fun g => by rw [(bi1 S hS i (by omega)).mp g] at c; exact absurd c (by decide)
      have hi := hb (i + 1) u1 u2 c
      have l1 := rS_le (s := stp wd) (p := i + 1) hn (clr_le hS u1 u2)
      have l2 := stp_le hY (p := p) (v := i + 1) (by omega) (by omega)
      rw [if_neg hc, rb_c hY hn hS hp u1 hi (hst (i + 1) hi) (hroc (i + 1) u1 hi c), bind_s]
      by_cases ce : stp wd p (i + 1) + rS (stp wd) n (clr S (i + 1)) (i + 1) = rS (stp wd) n S p
      · rw [if_neg (not_not_intro (by rw [ce])), if_pos ⟨c, ce⟩]
      · rw [if_pos (fun g => ce ((nI_eq (by omega) (by omega)).mp g)), if_neg (fun g => ce g.2)]
    · have hc : (nI S &&& bI (nI (i + 1))) = 0 := (bi1 S hS i (by omega)).mpr (by simpa using c)
      rw [if_pos hc, if_neg (fun g => c g.1)]
  have key : lp (fun s : Int32 => shX1_firstStop_L15 (nI S) (nI p) roads steps s) 1 = some (Sum.inl (nI v)) := by
    obtain ⟨e, rfl⟩ : ∃ e, v = e + 1 := ⟨v - 1, by omega⟩
    refine lp_to (fun i => nI (i + 1)) e (fun i hi => ?_) ?_
    · show shX1_firstStop_L15 (nI S) (nI p) roads steps (nI (i + 1)) = _
      rw [body (i + 1) (by omega) (by omega), if_neg (hl (i + 1) (by omega) (by omega))]
    · show shX1_firstStop_L15 (nI S) (nI p) roads steps (nI (e + 1)) = _
      rw [body (e + 1) (by omega) (by omega), if_pos ⟨ht, he⟩]
  unfold shX1_firstStop
  rw [e1, gd_nI (k := 8 * S + p) (by omega) (by decide), bind_s, key]
  rfl
def LX (x9 : Int32) (S p a : Nat) : Prop := (x9 = -1 ∧ p = a) ∨ (x9 = nI p ∧ tb S p = false ∧ 1 ≤ p)
theorem rf_c {wd mw dy : Nat → Int32} (hY : IY wd mw) {n S p a v : Nat} {x9 : Int32} (hn : n ≤ 7) (hD : DY wd n dy) (hS : S < 128) (hp : p ≤ 7) (ha : a ≤ 7) (hb : ∀ v, 1 ≤ v → v ≤ 7 → tb S v = true → v ≤ n) (hx : LX x9 S p a) (hr : rS (stp wd) n S p < 1000) (h1 : 1 ≤ v) (h2 : v ≤ n) (ht : tb S v = true) (he : stp wd p v + rS (stp wd) n (clr S v) v = rS (stp wd) n S p) (hl : ∀ u, 1 ≤ u → u < v → ¬ (tb S u = true ∧ stp wd p u + rS (stp wd) n (clr S u) u = rS (stp wd) n S p)) : lp (fun s : Int32 => shX7_plan_L524 (nI a) mw dy x9 (nI S) (nI (fe (rS (stp wd) n S p))) s) 1 = some (nI v) := by
  have val : ∀ u, shX7_plan_k524_590 (nI (fe (rS (stp wd) n S p))) (nI u) (nI (fe (stp wd p u + rS (stp wd) n (clr S u) u))) = some (if stp wd p u + rS (stp wd) n (clr S u) u = rS (stp wd) n S p then .inr (nI u) else .inl (nI (u + 1))) := fun u => by
    unfold shX7_plan_k524_590 shX7_plan_k524_595
    have b1 := fe_b (r := rS (stp wd) n S p)
    have b2 := fe_b (r := stp wd p u + rS (stp wd) n (clr S u) u)
    have hf := fe_eq (c := stp wd p u + rS (stp wd) n (clr S u) u) hr
    by_cases c : stp wd p u + rS (stp wd) n (clr S u) u = rS (stp wd) n S p
    · rw [if_pos c, if_pos (by rw [hf.mpr c])]
    · rw [if_neg c, if_neg (fun g => c (hf.mp ((nI_eq (by omega) (by omega)).mp g))), nI_1]
  have body : ∀ u, 1 ≤ u → u ≤ 7 → shX7_plan_L524 (nI a) mw dy x9 (nI S) (nI (fe (rS (stp wd) n S p))) (nI u) = some (if tb S u = true ∧ stp wd p u + rS (stp wd) n (clr S u) u = rS (stp wd) n S p then .inr (nI u) else .inl (nI (u + 1))) := fun u u1 u2 => by
    have hb3 : ((nI S >>> ((nI u - 1) &&& 31)) &&& 1) = (if tb S u = true then 1 else 0) := by
      have := bi3 S hS (u - 1) (by omega)
      rw [show u - 1 + 1 = u by omega] at this
      exact this
    unfold shX7_plan_L524
    rw [hb3]
    by_cases c : tb S u = true
    · rw [if_pos c, i10]
      have fin : ∀ o, o = some (if stp wd p u + rS (stp wd) n (clr S u) u = rS (stp wd) n S p then Sum.inr (nI u) else Sum.inl (nI (u + 1))) → o = some (if tb S u = true ∧ stp wd p u + rS (stp wd) n (clr S u) u = rS (stp wd) n S p then Sum.inr (nI u) else Sum.inl (nI (u + 1))) := fun o ho => by
        rw [ho]
        by_cases ce : stp wd p u + rS (stp wd) n (clr S u) u = rS (stp wd) n S p
        · rw [if_pos ce, if_pos ⟨c, ce⟩]
        · rw [if_neg ce, if_neg (fun g => ce g.2)]
      refine fin _ ?_
      rcases hx with ⟨rfl, rfl⟩ | ⟨rfl, hpt, hp1⟩
      · rw [if_neg (by decide), fr_c hY hn hD hS hb hp u1 u2, bind_s, val]
      · have hc := clr_le hS u1 u2
        have hpu : p ≠ u := fun e => by rw [e, c] at hpt; exact absurd hpt (by decide)
        have hd := hD (clr S u) u hc (fun w w1 w2 w3 => hb w w1 w2 (clr_b hS u1 u2 w1 w2 w3).1) u2 (Or.inr (clr_f hS u1 u2))
        rw [if_pos (nI_pos' (n := p) (by omega)), e88, e8c hS u1 u2, gd_nI (k := 8 * p + u) (by omega) (by decide), gd_nI (k := 8 * clr S u + u) (by omega) (by decide), cl (n := 8 * p + u) (by omega), cl (n := 8 * clr S u + u) (by omega), hd, bind_s, bind_s, fa_1 hY hp u2 hpu (rS_g hY hn hc u2), bind_s, val]
    · rw [if_neg c, i00, if_neg (fun g => c g.1)]
      unfold shX7_plan_k524_595
      rw [nI_1]
  obtain ⟨e, rfl⟩ : ∃ e, v = e + 1 := ⟨v - 1, by omega⟩
  refine lp_to (fun i => nI (i + 1)) e (fun i hi => ?_) ?_
  · show shX7_plan_L524 (nI a) mw dy x9 (nI S) (nI (fe (rS (stp wd) n S p))) (nI (i + 1)) = _
    rw [body (i + 1) (by omega) (by omega), if_neg (hl (i + 1) (by omega) (by omega))]
  · show shX7_plan_L524 (nI a) mw dy x9 (nI S) (nI (fe (rS (stp wd) n S p))) (nI (e + 1)) = _
    rw [body (e + 1) (by omega) (by omega), if_pos ⟨ht, he⟩]
theorem sub_clr {S A v : Nat} (hS : S < 128) (hA : A < 128) (h1 : 1 ≤ v) (h2 : v ≤ 7) (h : sub S A = true) : sub (clr S v) A = true := (bi9 _ (clr_le hS h1 h2) A hA).mpr (fun w hw g => (bi9 S hS A hA).mp h w hw (clr_b hS h1 h2 (by omega) (by omega) g).1)
theorem sub_n {S A n : Nat} (hS : S < 128) (hA : A < 128) (hAn : ∀ v, 1 ≤ v → v ≤ 7 → tb A v = true → v ≤ n) (h : sub S A = true) : ∀ v, 1 ≤ v → v ≤ 7 → tb S v = true → v ≤ n := fun v h1 h2 h3 => hAn v h1 h2 (by
  have := (bi9 S hS A hA).mp h (v - 1) (by omega)
  rw [show v - 1 + 1 = v by omega] at this
  exact this h3)
theorem lo_c {wd mw dy steps roads bd : Nat → Int32} (hY : IY wd mw) {n A a N : Nat} (hn : n ≤ 7) (hA : A < 128) (ha : a ≤ 7) (hN : N ≤ 7) (hAn : ∀ v, 1 ≤ v → v ≤ 7 → tb A v = true → v ≤ n) (hD : DY wd n dy) (hst : ∀ p, p ≤ n → ∀ v, v ≤ n → steps (8 * p + v) = nI (stp wd p v)) (hro : ∀ S, S < 128 → sub S A = true → ∀ p, p ≤ n → roads (8 * S + p) = nI (rS (stp wd) n S p)) :
    ∀ (m S p k : Nat) (x9 : Int32) (ord pof pde : Nat → Int32), pc S = m → S < 128 → sub S A = true → k + m = N → p ≤ n → rS (stp wd) n S p < 1000 → LX x9 S p a →
    ∃ ord' pof' pde', lp (fun s : Int32 × Int32 × Int32 × (Nat → Int32) => shX1_layOrder_L10 (nI N) roads steps s.1 s.2.1 s.2.2.1 s.2.2.2) (nI p, nI S, nI k, ord) = some ord' ∧ lp (fun s : Int32 × Int32 × Int32 × (Nat → Int32) × (Nat → Int32) => shX7_plan_L487 (nI n) (nI a) mw dy bd s.1 s.2.1 s.2.2.1 s.2.2.2.1 s.2.2.2.2) (x9, nI S, nI k, pof, pde) = some (nI N, pof', pde') ∧ (∀ j, j < k → ord' j = ord j ∧ pof' j = pof j ∧ pde' j = pde j) ∧ ∀ j, k ≤ j → j < N → ∃ v, 1 ≤ v ∧ v ≤ n ∧ ord' j = nI v ∧ pof' j = nI v ∧ pde' j = bd v
  | 0, S, p, k, x9, ord, pof, pde, hpc, hS, hsub, hk, hp, hr, hx => by
    have h0 : S = 0 := (bi10 S hS).2.2.mp hpc
    subst h0
    refine ⟨ord, pof, pde, lp_inr ?_, lp_inr ?_, fun _ _ => ⟨rfl, rfl, rfl⟩, fun j h1 h2 => by omega⟩
    · show shX1_layOrder_L10 (nI N) roads steps (nI p) (nI 0) (nI k) ord = _
      unfold shX1_layOrder_L10
      rw [if_pos (nI_le (by omega) (by omega))]
    · show shX7_plan_L487 (nI n) (nI a) mw dy bd x9 (nI 0) (nI k) pof pde = _
      unfold shX7_plan_L487
      rw [if_pos (show nI 0 = 0 from rfl), show k = N by omega]
  | m + 1, S, p, k, x9, ord, pof, pde, hpc, hS, hsub, hk, hp, hr, hx => by
    have h0 : S ≠ 0 := fun e => by have := (bi10 S hS).2.2.mpr e; omega
    have hb := sub_n hS hA hAn hsub
    obtain ⟨v, v1, v2, v3, v4, v5⟩ := bs_c hn hS h0 hr
    have hroc : ∀ v, 1 ≤ v → v ≤ n → tb S v = true → roads (8 * clr S v + v) = nI (rS (stp wd) n (clr S v) v) := fun v h1 h2 h3 => hro _ (clr_le hS h1 (by omega)) (sub_clr hS hA h1 (by omega) hsub) v h2
    have f1 := fs_c hY hn hS hp hb (hst p hp) (hro S hS hsub p hp) hroc v1 v2 v3 v4 v5
    have f2 := rf_c hY hn hD hS (by omega) ha hb hx hr v1 v2 v3 v4 v5
    obtain ⟨l1, l2, l3⟩ := clr_l hS v1 (by omega) v3
    have hb2 : nI S &&& (bI (nI v) ^^^ -1) = nI (clr S v) := by
      have := bi2 S hS (v - 1) (by omega)
      rw [show v - 1 + 1 = v by omega] at this
      exact this
    obtain ⟨ord', pof', pde', q1, q2, q3, q4⟩ := lo_c hY hn hA ha hN hAn hD hst hro m (clr S v) v (k + 1) (nI v) (upd ord k (nI v)) (upd pof k (nI v)) (upd pde k (bd v)) (by omega) l2 (sub_clr hS hA v1 (by omega) hsub) (by omega) v2 (by omega) (Or.inr ⟨rfl, clr_f hS v1 (by omega), v1⟩)
    have st1 : shX1_layOrder_L10 (nI N) roads steps (nI p) (nI S) (nI k) ord = some (.inl (nI v, nI (clr S v), nI (k + 1), upd ord k (nI v))) := by
      unfold shX1_layOrder_L10 shX1_bit
      rw [if_neg (nI_ge (by omega) (by omega)), f1, bind_s, gd_nI (k := k) (by omega) (by decide), cl (n := k) (by omega), bind_s, bind_s, hb2, nI_1]
    have st2 : shX7_plan_L487 (nI n) (nI a) mw dy bd x9 (nI S) (nI k) pof pde = some (.inl (nI v, nI (clr S v), nI (k + 1), upd pof k (nI v), upd pde k (bd v))) := by
      have k601 : shX7_plan_k487_601 bd (nI S) (nI k) pof pde (nI v) = some (.inl (nI v, nI (clr S v), nI (k + 1), upd pof k (nI v), upd pde k (bd v))) := by
        unfold shX7_plan_k487_601
        rw [gd_nI (k := k) (by omega) (by decide), gd_nI (k := v) (by omega) (by decide), cl (n := k) (by omega), cl (n := v) (by omega), bind_s, bind_s, bind_s, hb2, nI_1]
      unfold shX7_plan_L487 shX7_plan_k487_519
      rw [if_neg (ne_0 (k := S) (by omega) (by omega))]
      rcases id hx with ⟨rfl, rfl⟩ | ⟨rfl, hpt, hp1⟩
      · rw [if_neg (by decide), th_c hY hn hD hS hb (by omega), bind_s, f2, bind_s, k601]
      · rw [if_pos (nI_pos' (n := p) (by omega)), e88, gd_nI (k := 8 * S + p) (by omega) (by decide), cl (n := 8 * S + p) (by omega), hD S p hS hb (by omega) (Or.inr hpt), bind_s, f2, bind_s, k601]
    refine ⟨ord', pof', pde', ?_, ?_, fun j hj => ?_, fun j j1 j2 => ?_⟩
    · rw [lp_inl (s' := (nI v, nI (clr S v), nI (k + 1), upd ord k (nI v))) st1]; exact q1
    · rw [lp_inl (s' := (nI v, nI (clr S v), nI (k + 1), upd pof k (nI v), upd pde k (bd v))) st2]; exact q2
    · obtain ⟨z1, z2, z3⟩ := q3 j (by omega)
      rw [z1, z2, z3, upd_n (by omega), upd_n (by omega), upd_n (by omega)]; exact ⟨rfl, rfl, rfl⟩
    · by_cases e : j = k
      · subst e
        obtain ⟨z1, z2, z3⟩ := q3 j (by omega)
        exact ⟨v, v1, v2, by rw [z1, upd_s], by rw [z2, upd_s], by rw [z3, upd_s]⟩
      · exact q4 j (by omega) j2
