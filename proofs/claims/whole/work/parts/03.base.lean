/-! loops as functions; guards -/
def it {σ ρ : Type} (f : σ → Option (σ ⊕ ρ)) : Nat → σ → Option ρ
  | 0, _ => none
  | n + 1, s => match f s with
    | none => none
    | some (.inl s') => it f n s'
    | some (.inr r) => some r
theorem it_inl {σ ρ : Type} {f : σ → Option (σ ⊕ ρ)} {n : Nat} {s s' : σ} (h : f s = some (.inl s')) : it f (n + 1) s = it f n s' := by
  simp only [it, h]
theorem it_inr {σ ρ : Type} {f : σ → Option (σ ⊕ ρ)} {n : Nat} {s : σ} {r : ρ} (h : f s = some (.inr r)) : it f (n + 1) s = some r := by
  simp only [it, h]
theorem it_b {σ ρ : Type} {f : σ → Option (σ ⊕ ρ)} {n : Nat} {s : σ} {r : ρ} (h : it f (n + 1) s = some r) : ∃ b, f s = some b ∧ (∀ s', some (Sum.inl s') = some b → it f n s' = some r) ∧ (∀ r', some (Sum.inr r') = some b → r' = r) := by
  cases hb : f s with
  | none => simp [it, hb] at h
  | some b =>
    refine ⟨b, rfl, fun s' e => ?_, fun r' e => ?_⟩
    · cases e; simpa [it, hb] using h
    · cases e; simpa [it, hb] using h
theorem it_0 {σ ρ : Type} {f : σ → Option (σ ⊕ ρ)} {s : σ} {r : ρ} {P : Prop} (h : it f 0 s = some r) : P := by simp [it] at h
theorem it_more {σ ρ : Type} {f : σ → Option (σ ⊕ ρ)} {r : ρ} (k : Nat) : ∀ (n : Nat) (s : σ), it f n s = some r → it f (n + k) s = some r := by
  intro n
  induction n with
  | zero => intro s h; cases h
  | succ n ih =>
    intro s h
    obtain ⟨b, hb, h1, h2⟩ := it_b h
    rw [Nat.succ_add]
    cases b with
    | inl s' => rw [it_inl hb]; exact ih s' (h1 s' rfl)
    | inr r' => rw [it_inr hb, h2 r' rfl]
theorem it_one {σ ρ : Type} {f : σ → Option (σ ⊕ ρ)} {r r' : ρ} {n n' : Nat} {s : σ} (h : it f n s = some r) (h' : it f n' s = some r') : r = r' := by
  have a := it_more n' n s h
  have b := it_more n n' s h'
  rw [Nat.add_comm] at b
  exact Option.some.inj (a.symm.trans b)
noncomputable def lp {σ ρ : Type} (f : σ → Option (σ ⊕ ρ)) (s : σ) : Option ρ := @dite _ (∃ r n, it f n s = some r) (Classical.propDecidable _) (fun h => some (Classical.choose h)) (fun _ => none)
theorem lp_iff {σ ρ : Type} {f : σ → Option (σ ⊕ ρ)} {s : σ} {r : ρ} : lp f s = some r ↔ ∃ n, it f n s = some r := by
  constructor
  · intro h
    by_cases hx : ∃ r n, it f n s = some r
    · simp only [lp, hx, dite_true] at h
      obtain ⟨n, hn⟩ := Classical.choose_spec hx
      exact ⟨n, by rw [hn]; exact h⟩
    · simp [lp, hx] at h
  · intro ⟨n, hn⟩
    have hx : ∃ r n, it f n s = some r := ⟨r, n, hn⟩
    simp only [lp, hx, dite_true]
    obtain ⟨n', hn'⟩ := Classical.choose_spec hx
    rw [it_one hn' hn]
theorem lp_inl {σ ρ : Type} {f : σ → Option (σ ⊕ ρ)} {s s' : σ} (h : f s = some (.inl s')) : lp f s = lp f s' := by
  cases hr : lp f s' with
  | some r =>
    obtain ⟨n, hn⟩ := lp_iff.mp hr
    exact lp_iff.mpr ⟨n + 1, by rw [it_inl h]; exact hn⟩
  | none =>
    cases hs : lp f s with
    | none => rfl
    | some r =>
      obtain ⟨n, hn⟩ := lp_iff.mp hs
      cases n with
      | zero => cases hn
      | succ n => rw [it_inl h] at hn; rw [lp_iff.mpr ⟨n, hn⟩] at hr; cases hr
theorem lp_inr {σ ρ : Type} {f : σ → Option (σ ⊕ ρ)} {s : σ} {r : ρ} (h : f s = some (.inr r)) : lp f s = some r := lp_iff.mpr ⟨1, it_inr h⟩
/-- a loop by an invariant and a measure: what it comes out with -/
theorem lp_ind {σ ρ : Type} {f : σ → Option (σ ⊕ ρ)} (I : σ → Prop) (μ : σ → Nat) (P : ρ → Prop) (h : ∀ s, I s → (∃ s', f s = some (.inl s') ∧ I s' ∧ μ s' < μ s) ∨ (∃ r, f s = some (.inr r) ∧ P r)) : ∀ s, I s → ∃ r, lp f s = some r ∧ P r := by
  have key : ∀ n s, I s → μ s < n → ∃ r, lp f s = some r ∧ P r := by
    intro n
    induction n with
    | zero => intro s _ h; omega
    | succ n ih =>
      intro s hI hm
      rcases h s hI with ⟨s', e, hI', hm'⟩ | ⟨r, e, hr⟩
      · obtain ⟨r, h1, h2⟩ := ih s' hI' (by omega)
        exact ⟨r, by rw [lp_inl e]; exact h1, h2⟩
      · exact ⟨r, lp_inr e, hr⟩
  exact fun s hI => key (μ s + 1) s hI (Nat.lt_succ_self _)
def gd (i : Int32) (n : Nat) : Option Unit := if i < 0 ∨ n ≤ i.toNatClampNeg then none else some ()
theorem gd_in {i : Int32} {n : Nat} {u : Unit} (h : gd i n = some u) : vp_in i n := by
  unfold gd at h
  unfold vp_in
  split at h
  · cases h
  · assumption
theorem gd_of {i : Int32} {n : Nat} (h : vp_in i n) : gd i n = some () := if_neg h
theorem gd_nI {k n : Nat} (h : k < n) (hn : n < 2 ^ 31) : gd (nI k) n = some () := gd_of (vp_in_nI h hn)
theorem vin {i : Int32} {n : Nat} (h : decide (¬ (i < 0 ∨ n ≤ i.toNatClampNeg)) = true) : vp_in i n := by
  show ¬ (i < 0 ∨ n ≤ i.toNatClampNeg)
  exact of_decide_eq_true h
def gz (r : Int32) : Option Unit := if r = 0 ∨ r = 1 then some () else none
theorem gz_nar {r : Int32} {u : Unit} (h : gz r = some u) : narrow .boolean (.int r) = .int r := by
  unfold gz at h
  split at h
  · rename_i hc; rcases hc with hc | hc <;> rw [hc] <;> rfl
  · cases h
def gq (y : Int64) : Option Unit := if y = 0 then none else some ()
theorem gq_ne {y : Int64} {u : Unit} (h : gq y = some u) : ¬ y = 0 := by
  unfold gq at h
  split at h
  · cases h
  · assumption
theorem gq_of {y : Int64} (h : ¬ y = 0) : gq y = some () := if_neg h
def gqi (y : Int32) : Option Unit := if y = 0 then none else some ()
theorem gqi_ne {y : Int32} {u : Unit} (h : gqi y = some u) : ¬ y = 0 := by
  unfold gqi at h
  split at h
  · cases h
  · assumption
theorem ite_t {c : Prop} [Decidable c] {α : Type} {a b : Option α} {o : α} (h : (if c then a else b) = some o) (hc : c) : a = some o := by rw [if_pos hc] at h; exact h
theorem ite_f {c : Prop} [Decidable c] {α : Type} {a b : Option α} {o : α} (h : (if c then a else b) = some o) (hc : ¬ c) : b = some o := by rw [if_neg hc] at h; exact h
theorem bd {α β : Type} {x : Option α} {f : α → Option β} {o : β} (h : x.bind f = some o) : ∃ r, x = some r ∧ f r = some o := Option.bind_eq_some_iff.mp h
theorem lc_eq {x y : Int64} : lg_cmp x y = 0 ↔ x = y := by
  unfold lg_cmp
  constructor
  · intro h
    split at h
    · exact absurd h (by decide)
    · split at h
      · assumption
      · exact absurd h (by decide)
  · intro h
    subst h
    rw [if_neg (fun h : x > x => Int64.lt_irrefl h), if_pos rfl]
theorem ts_out {x : Int32} {n : Nat} (hn : n < 2 ^ 31) (h : ∀ k, k ≤ n → ¬ x = nI k) : x.toInt < 0 ∨ (n : Int) < x.toInt := by
  rcases Int.lt_or_le x.toInt 0 with h1 | h1
  · exact Or.inl h1
  · rcases Int.lt_or_le (n : Int) x.toInt with h2 | h2
    · exact Or.inr h2
    · exfalso
      refine h x.toInt.toNat (by omega) (Int32.toInt_inj.mp ?_)
      rw [nI_toInt (by omega)]
      omega
theorem se_l {α β γ : Type} {f : α → Option γ} {g : β → Option γ} {a : α} {o : γ} (h : Sum.elim f g (Sum.inl a) = some o) : f a = some o := h
theorem se_r {α β γ : Type} {f : α → Option γ} {g : β → Option γ} {a : β} {o : γ} (h : Sum.elim f g (Sum.inr a) = some o) : g a = some o := h
/-! contracts -/
abbrev aE : Type := (Nat → Prop) → State → Heap → Prop
def noE : aE := fun _ _ _ => True
def clE (E : aE) : Prop := (∀ (A : Nat → Prop) (u U : State) (H : Heap), U.vm = u.vm → E A u H → E A U H) ∧ (∀ (A : Nat → Prop) (s U : State) (H : Heap), s.WarmedH U.vm → E A s H → E A U H) ∧ (∀ (A : Nat → Prop) (U : State) (H H1 : Heap), E A U H → (∀ a : Nat, a < H.size → ¬ A a → H1[a]? = H[a]?) → E A U H1) ∧ ∀ (A B : Nat → Prop) (U : State) (H : Heap), E A U H → (∀ q, B q → A q) → E B U H
theorem noE_cl : clE noE := ⟨fun _ _ _ _ _ _ => trivial, fun _ _ _ _ _ _ => trivial, fun _ _ _ _ _ _ => trivial, fun _ _ _ _ _ _ => trivial⟩
abbrev tys3 (cI cJ cZ : ClassId) : List (ClassId × FieldType) := [(cI, .int), (cJ, .long), (cZ, .boolean)]
def kPre (D : va_G) (tys : List (ClassId × FieldType)) (E : aE) (ws : va_W) (sz : Nat) : State → Prop := fun U => U.heap.size = sz ∧ va_P D vwCl ws U.heap ∧ va_K D vwCl tys U ∧ va_D (fun _ => True) ws ∧ E (va_A ws sz) U U.heap
def kPost (D : va_G) (tys : List (ClassId × FieldType)) (A : Nat → Prop) (ws : va_W) : Unit → State → Prop := fun _ t => va_P D vwCl ws t.heap ∧ va_K D vwCl tys t ∧ va_D A ws
def CtI (l : Launch) (y : MethodName) (wy : List Cond) (rm : Room) (D : va_G) (tys : List (ClassId × FieldType)) (E : aE) (ws : va_W) (as : List Value) (r : Int32) (ws' : va_W) : Prop :=
  ∀ sz : Nat, Met l y wy rm (va_Pc as (kPre D tys E ws sz)) (va_Qi (fun (x : Int32) (_ : Unit) => x = r) (kPost D tys (va_A ws sz) ws') (va_A ws sz)) 0 0 (va_A ws sz)
def CtL (l : Launch) (y : MethodName) (wy : List Cond) (rm : Room) (D : va_G) (tys : List (ClassId × FieldType)) (E : aE) (ws : va_W) (as : List Value) (r : Int64) (ws' : va_W) : Prop :=
  ∀ sz : Nat, Met l y wy rm (va_Pc as (kPre D tys E ws sz)) (va_Ql (fun (x : Int64) (_ : Unit) => x = r) (kPost D tys (va_A ws sz) ws') (va_A ws sz)) 0 0 (va_A ws sz)
def CtV (l : Launch) (y : MethodName) (wy : List Cond) (rm : Room) (D : va_G) (tys : List (ClassId × FieldType)) (E : aE) (ws : va_W) (as : List Value) (ws' : va_W) : Prop :=
  ∀ sz : Nat, Met l y wy rm (va_Pc as (kPre D tys E ws sz)) (va_Qv (fun (_ : Unit) => True) (kPost D tys (va_A ws sz) ws') (va_A ws sz)) 0 0 (va_A ws sz)
section BODY
variable (p : Program) (l : Launch) (e : Env) (R : Room) (s : State) (m : MethodId) (args : Array Value) (below : List Frame) (meth : Method) (c : Code) (cc : ByteArray) (A : Nat → Prop) (Q : State → Prop) (D : va_G)
def RtI (r : Int32) (ws : va_W) : Prop := ∀ (pc : Nat) (ls : Array Slot) (H : Heap) (locs : List Loc), decode cc pc = .ok (.ireturn, 1) → va_P D vwCl ws H → va_D A ws → va_S A s.heap H locs → W p l e R s m args below meth c H locs 0 0 Q (F0 m pc ls [.int r])
def RtZ (r : Int32) (ws : va_W) : Prop := ∀ (pc : Nat) (ls : Array Slot) (H : Heap) (locs : List Loc), narrow .boolean (.int r) = .int r → decode cc pc = .ok (.ireturn, 1) → va_P D vwCl ws H → va_D A ws → va_S A s.heap H locs → W p l e R s m args below meth c H locs 0 0 Q (F0 m pc ls [.int r])
def RtT (ty : FieldType) (r : Int32) (ws : va_W) : Prop := ∀ (pc : Nat) (ls : Array Slot) (H : Heap) (locs : List Loc), narrow ty (.int r) = .int r → decode cc pc = .ok (.ireturn, 1) → va_P D vwCl ws H → va_D A ws → va_S A s.heap H locs → W p l e R s m args below meth c H locs 0 0 Q (F0 m pc ls [.int r])
def RtL (r : Int64) (ws : va_W) : Prop := ∀ (pc : Nat) (ls : Array Slot) (H : Heap) (locs : List Loc), decode cc pc = .ok (.lreturn, 1) → va_P D vwCl ws H → va_D A ws → va_S A s.heap H locs → W p l e R s m args below meth c H locs 0 0 Q (F0 m pc ls [.long r])
def RtV (ws : va_W) : Prop := ∀ (pc : Nat) (ls : Array Slot) (H : Heap) (locs : List Loc), decode cc pc = .ok (.return_, 1) → va_P D vwCl ws H → va_D A ws → va_S A s.heap H locs → W p l e R s m args below meth c H locs 0 0 Q (F0 m pc ls [])
end BODY
/-- what holds at a method's entry -/
def Bdy (l : Launch) (D : va_G) (tys : List (ClassId × FieldType)) (E : aE) (rm : Room) (y : MethodName) (cc : ByteArray) (maxL : Nat) (wy : List Cond) (ws : va_W) (as : List Value) (Rt : Program → Launch → Env → Room → State → MethodId → Array Value → List Frame → Method → Code → ByteArray → (Nat → Prop) → (State → Prop) → va_G → Prop) : Prop :=
  ∀ (p : Program) (e : Env) (s : State) (m : MethodId) (below : List Frame) (meth : Method) (c : Code) (A : Nat → Prop) (Q : State → Prop), CallFix p m c cc maxL s as.toArray wy y.cls → va_K D vwCl tys s → (∀ q, s.heap.size ≤ q → A q) → E A s s.heap → Rt p l e rm s m as.toArray below meth c cc A Q D → ∀ (H : Heap) (locs : List Loc), va_P D vwCl ws H → va_D A ws → va_S A s.heap H locs → ∀ ls : Array Slot, lv_has ls maxL (lv_args 0 as) → W p l e rm s m as.toArray below meth c H locs 0 0 Q (F0 m 0 ls [])
theorem ctI {l : Launch} {y : MethodName} {wy wy' : List Cond} {rm : Room} {D : va_G} {tys : List (ClassId × FieldType)} {E : aE} {ws ws' : va_W} {as : List Value} {r : Int32} {cc : ByteArray} {maxL : Nat} (hy : plainName y.cls = true) (hw : wy = Cond.code y cc maxL (some .int) :: wy') (hn : (lg_sl as).length ≤ maxL)
    (core : Bdy l D tys E rm y cc maxL wy ws as (fun p l e R s m args below meth c cc A Q D => RtI p l e R s m args below meth c cc A Q D r ws')) : CtI l y wy rm D tys E ws as r ws' := by
  intro sz
  refine Met.ofW (cc := cc) (maxL := maxL) (ret := some .int) hy hw ?_
  intro p e s m args below meth c s₁ B hml hv
  obtain ⟨rfl, hsz, hP, hK, hD0, hE⟩ := hv
  have hts := atoms_spec (ws := wy) B.pre
  have hown : s.vm.findClass y.cls = some m.cls := findClass_of_methodNamed B.named
  subst hsz
  rw [lg_entry_eq]
  exact core p e s m below meth c (va_A ws s.heap.size) _ ⟨B.exec, B.bytes, hml, hown, hts⟩ hK (fun q h => Or.inr h) hE
    (fun pc ls H locs hd hP hD hS => W.iret B.exec B.bytes B.returns (fun t ht hW => ⟨⟨r, (), rfl, rfl, by rw [ht]; exact hP, va_K.moved hW.alike hK, hD⟩, hS.F ht⟩) hS.2.2 hd B.notSynchronized)
    s.heap [] hP (hD0.self) va_S.rf _ (lv_entry as hn)
theorem ctZ {l : Launch} {y : MethodName} {wy wy' : List Cond} {rm : Room} {D : va_G} {tys : List (ClassId × FieldType)} {E : aE} {ws ws' : va_W} {as : List Value} {r : Int32} {cc : ByteArray} {maxL : Nat} (hy : plainName y.cls = true) (hw : wy = Cond.code y cc maxL (some .boolean) :: wy') (hn : (lg_sl as).length ≤ maxL)
    (core : Bdy l D tys E rm y cc maxL wy ws as (fun p l e R s m args below meth c cc A Q D => RtZ p l e R s m args below meth c cc A Q D r ws')) : CtI l y wy rm D tys E ws as r ws' := by
  intro sz
  refine Met.ofW (cc := cc) (maxL := maxL) (ret := some .boolean) hy hw ?_
  intro p e s m args below meth c s₁ B hml hv
  obtain ⟨rfl, hsz, hP, hK, hD0, hE⟩ := hv
  have hts := atoms_spec (ws := wy) B.pre
  have hown : s.vm.findClass y.cls = some m.cls := findClass_of_methodNamed B.named
  subst hsz
  rw [lg_entry_eq]
  exact core p e s m below meth c (va_A ws s.heap.size) _ ⟨B.exec, B.bytes, hml, hown, hts⟩ hK (fun q h => Or.inr h) hE
    (fun pc ls H locs hn hd hP hD hS => W.zret B.exec B.bytes B.returns hn (fun t ht hW => ⟨⟨r, (), rfl, rfl, by rw [ht]; exact hP, va_K.moved hW.alike hK, hD⟩, hS.F ht⟩) hS.2.2 hd B.notSynchronized)
    s.heap [] hP (hD0.self) va_S.rf _ (lv_entry as hn)
theorem ctT {ty : FieldType} {l : Launch} {y : MethodName} {wy wy' : List Cond} {rm : Room} {D : va_G} {tys : List (ClassId × FieldType)} {E : aE} {ws ws' : va_W} {as : List Value} {r : Int32} {cc : ByteArray} {maxL : Nat} (hy : plainName y.cls = true) (hw : wy = Cond.code y cc maxL (some ty) :: wy') (hn : (lg_sl as).length ≤ maxL)
    (core : Bdy l D tys E rm y cc maxL wy ws as (fun p l e R s m args below meth c cc A Q D => RtT p l e R s m args below meth c cc A Q D ty r ws')) : CtI l y wy rm D tys E ws as r ws' := by
  intro sz
  refine Met.ofW (cc := cc) (maxL := maxL) (ret := some ty) hy hw ?_
  intro p e s m args below meth c s₁ B hml hv
  obtain ⟨rfl, hsz, hP, hK, hD0, hE⟩ := hv
  have hts := atoms_spec (ws := wy) B.pre
  have hown : s.vm.findClass y.cls = some m.cls := findClass_of_methodNamed B.named
  subst hsz
  rw [lg_entry_eq]
  exact core p e s m below meth c (va_A ws s.heap.size) _ ⟨B.exec, B.bytes, hml, hown, hts⟩ hK (fun q h => Or.inr h) hE
    (fun pc ls H locs hn hd hP hD hS => W.zret B.exec B.bytes B.returns hn (fun t ht hW => ⟨⟨r, (), rfl, rfl, by rw [ht]; exact hP, va_K.moved hW.alike hK, hD⟩, hS.F ht⟩) hS.2.2 hd B.notSynchronized)
    s.heap [] hP (hD0.self) va_S.rf _ (lv_entry as hn)
theorem ctL {l : Launch} {y : MethodName} {wy wy' : List Cond} {rm : Room} {D : va_G} {tys : List (ClassId × FieldType)} {E : aE} {ws ws' : va_W} {as : List Value} {r : Int64} {cc : ByteArray} {maxL : Nat} (hy : plainName y.cls = true) (hw : wy = Cond.code y cc maxL (some .long) :: wy') (hn : (lg_sl as).length ≤ maxL)
    (core : Bdy l D tys E rm y cc maxL wy ws as (fun p l e R s m args below meth c cc A Q D => RtL p l e R s m args below meth c cc A Q D r ws')) : CtL l y wy rm D tys E ws as r ws' := by
  intro sz
  refine Met.ofW (cc := cc) (maxL := maxL) (ret := some .long) hy hw ?_
  intro p e s m args below meth c s₁ B hml hv
  obtain ⟨rfl, hsz, hP, hK, hD0, hE⟩ := hv
  have hts := atoms_spec (ws := wy) B.pre
  have hown : s.vm.findClass y.cls = some m.cls := findClass_of_methodNamed B.named
  subst hsz
  rw [lg_entry_eq]
  exact core p e s m below meth c (va_A ws s.heap.size) _ ⟨B.exec, B.bytes, hml, hown, hts⟩ hK (fun q h => Or.inr h) hE
    (fun pc ls H locs hd hP hD hS => W.lret B.exec B.bytes B.returns (fun t ht hW => ⟨⟨r, (), rfl, rfl, by rw [ht]; exact hP, va_K.moved hW.alike hK, hD⟩, hS.F ht⟩) hS.2.2 hd B.notSynchronized)
    s.heap [] hP (hD0.self) va_S.rf _ (lv_entry as hn)
theorem ctV {l : Launch} {y : MethodName} {wy wy' : List Cond} {rm : Room} {D : va_G} {tys : List (ClassId × FieldType)} {E : aE} {ws ws' : va_W} {as : List Value} {cc : ByteArray} {maxL : Nat} (hy : plainName y.cls = true) (hw : wy = Cond.code y cc maxL none :: wy') (hn : (lg_sl as).length ≤ maxL)
    (core : Bdy l D tys E rm y cc maxL wy ws as (fun p l e R s m args below meth c cc A Q D => RtV p l e R s m args below meth c cc A Q D ws')) : CtV l y wy rm D tys E ws as ws' := by
  intro sz
  refine Met.ofW (cc := cc) (maxL := maxL) (ret := none) hy hw ?_
  intro p e s m args below meth c s₁ B hml hv
  obtain ⟨rfl, hsz, hP, hK, hD0, hE⟩ := hv
  have hts := atoms_spec (ws := wy) B.pre
  have hown : s.vm.findClass y.cls = some m.cls := findClass_of_methodNamed B.named
  subst hsz
  rw [lg_entry_eq]
  exact core p e s m below meth c (va_A ws s.heap.size) _ ⟨B.exec, B.bytes, hml, hown, hts⟩ hK (fun q h => Or.inr h) hE
    (fun pc ls H locs hd hP hD hS => W.vret B.exec B.bytes B.returns (fun t ht hW => ⟨⟨(), rfl, trivial, by rw [ht]; exact hP, va_K.moved hW.alike hK, hD⟩, hS.F ht⟩) hS.2.2 hd B.notSynchronized)
    s.heap [] hP (hD0.self) va_S.rf _ (lv_entry as hn)
theorem va_Pm {D : va_G} {cl : List vw_C} {ws ws' : va_W} {H : Heap} (h : va_P D cl ws H) (is : List Nat) (hs : is.map (fun i => ws[i]?) = ws'.map some) : va_P D cl ws' H := by
  intro k q hk
  have h1 : (is.map (fun i => ws[i]?))[k]? = some (some q) := by rw [hs, List.getElem?_map, hk]; rfl
  rw [List.getElem?_map] at h1
  cases hi : is[k]? with
  | none => rw [hi] at h1; cases h1
  | some i => rw [hi] at h1; exact h i q (Option.some.inj h1)
theorem kPre_blind {D : va_G} {tys : List (ClassId × FieldType)} {E : aE} {ws : va_W} {sz : Nat} {as : List Value} (hE : clE E) : FrameBlind (va_Pc as (kPre D tys E ws sz)) := fun a U g mk q => by
  obtain ⟨q0, q1, qP, qK, qD, qE⟩ := q
  exact ⟨q0, q1, qP, va_K.moved (u := U) (U := U.calling g mk a) (Vm.Alike.refl U.vm) qK, qD, hE.1 _ U _ _ rfl qE⟩
section CALLS
variable {p : Program} {l : Launch} {e : Env} {R : Room} {s : State} {m : MethodId} {args : Array Value} {below : List Frame} {meth : Method} {c : Code} {H : Heap} {locs : List Loc} {Q : State → Prop}
variable {cc : ByteArray} {nL : Nat} {Ts : List Cond} {own C : String} {D : va_G} {tys : List (ClassId × FieldType)} {E : aE} {A : Nat → Prop} {ws wc wc' ws' : va_W} {y : MethodName} {wy : List Cond} {rm : Room} {bytes : ByteArray} {maxL n index pc b ci k0 : Nat} {ret : Option FieldType} {As rest st0 : List Value} {ls : Array Slot} {T : u_T} {N : Nat} {fs : List Value}
/-- how a callee's cells lie in the caller's: wc at isC, the rest at isR; behind the call ws' at isN of rest and callee's -/
def rst (ws : va_W) (isR : List Nat) : va_W := isR.filterMap (fun i => ws[i]?)
theorem rst_map (ws : va_W) : ∀ isR : List Nat, (isR.all fun i => decide (i < ws.length)) = true → isR.map (fun i => ws[i]?) = (rst ws isR).map some := by
  intro isR
  induction isR with
  | nil => intro _; rfl
  | cons i is ih =>
    intro h
    rw [List.all_cons, Bool.and_eq_true] at h
    have hi : i < ws.length := of_decide_eq_true h.1
    have h2 := ih h.2
    simp only [rst, List.map_cons, List.filterMap_cons, List.getElem?_eq_getElem hi] at h2 ⊢
    rw [h2]
def Cut (ws wc wc' ws' : va_W) (isC isR isN : List Nat) : Prop := isC.map (fun i => ws[i]?) = wc.map some ∧ (isR.all fun i => decide (i < ws.length)) = true ∧ va_nd isC = true ∧ va_nd isR = true ∧ (isR.all fun i => !isC.contains i) = true ∧ va_nd isN = true ∧ isN.map (fun i => (rst ws isR ++ wc')[i]?) = ws'.map some
theorem Cut.join {H1 : Heap} {isC isR isN : List Nat} (h : Cut ws wc wc' ws' isC isR isN) (hP : va_P D vwCl ws H) (hD : va_D A ws) (hF : ∀ q, va_A wc H.size q → A q) (hk : ∀ q : Nat, q < H.size → ¬ va_A wc H.size q → H1[q]? = H[q]?) (hP1 : va_P D vwCl wc' H1) (hD1 : va_D (va_A wc H.size) wc') : va_P D vwCl ws' H1 ∧ va_D A ws' := by
  obtain ⟨h1, h2, h3, h4, h5, h6, h7⟩ := h
  obtain ⟨a, b⟩ := va_join hP hD isC isR h1 (rst_map ws isR h2) h4 (fun i hi hc => by
    have := List.all_eq_true.mp h5 i hi
    simp [hc] at this) hk hF hP1 hD1
  exact ⟨va_Pm a isN h7, b.sub isN h6 h7⟩
theorem kVi0 {r : Int32} (S : CallFix p m c cc nL s args Ts own) (hK : va_K D vwCl tys s) (hA : ∀ q, s.heap.size ≤ q → A q) (hM : CtI l y wy rm D tys E wc (.ref b :: As) r wc') (hcl : clE E) (cw : CallW R s args own C index y bytes maxL ret wy rm 0 0 n) (hrecv : ∃ cellB : Cell, H[b]? = some cellB ∧ cellB.vm.isStatics = false ∧ s.vm.findClass C = some cellB.cls)
    (isC isR isN : List Nat) (hcut : Cut ws wc wc' ws' isC isR isN) (hE : E A s s.heap) (hn : As.length = n) (hsize : ls.size = nL) (hst : st0 = As.reverse ++ .ref b :: rest) (hW : (rest.map fun v => v.category).sum ≤ 8) (hdg : decode cc pc = .ok (.invokevirtual index, 3)) (hP : va_P D vwCl ws H) (hD : va_D A ws) (hS : va_S A s.heap H locs)
    (kk : ∀ (H1 : Heap) (locs1 : List Loc), va_P D vwCl ws' H1 → va_D A ws' → va_S A s.heap H1 locs1 → W p l e R s m args below meth c H1 locs1 0 0 Q (F0 m (pc + 3) ls (.int r :: rest))) : W p l e R s m args below meth c H locs 0 0 Q (F0 m pc ls st0) := by
  have hPc := va_Pm hP isC hcut.1
  have hDc := hD.sub isC hcut.2.2.1 hcut.1
  have hFc := va_free (wc := wc) hD hS hA isC hcut.1
  subst hst
  refine va_calli (va_runV S (hM H.size) cw ⟨kPre_blind hcl, hrecv, fun U hU hW => ⟨rfl, by rw [hU], by rw [hU]; exact hPc, va_K.moved hW.alike hK, hDc.weaken (fun _ _ _ _ => trivial), by rw [hU]; exact hcl.2.1 _ s U _ hW (hcl.2.2.2 _ _ _ _ (hcl.2.2.1 _ _ _ _ hE hS.2.1) hFc)⟩⟩ rfl hn hsize rfl (lv_room hW) hdg ⟨Nat.zero_le _, Nat.zero_le _⟩) hS (fun q _ h => hFc q h) hFc (fun x u t H1 locs1 ht hvm hw hB hz1 hk1 hS1 => ?_)
  obtain ⟨hP1, -, hD1⟩ := hB
  rw [ht] at hP1
  subst hw
  obtain ⟨a, b⟩ := hcut.join hP hD hFc hk1 hP1 hD1
  exact kk H1 locs1 a b hS1
theorem kVi {r : Int32} (S : CallFix p m c cc nL s args Ts own) (hK : va_K D vwCl tys s) (hA : ∀ q, s.heap.size ≤ q → A q) (hM : CtI l y wy rm D tys E wc (.ref b :: As) r wc') (hcl : clE E) (cw : CallW R s args own C index y bytes maxL ret wy rm 0 0 n) (hci : vwCl[ci]? = some (C, T, N)) (k0 : Nat) (hb0 : wc[k0]? = some (b, .inr (ci, fs)))
    (isC isR isN : List Nat) (hcut : Cut ws wc wc' ws' isC isR isN) (hE : E A s s.heap) (hn : As.length = n) (hsize : ls.size = nL) (hst : st0 = As.reverse ++ .ref b :: rest) (hW : (rest.map fun v => v.category).sum ≤ 8) (hdg : decode cc pc = .ok (.invokevirtual index, 3)) (hP : va_P D vwCl ws H) (hD : va_D A ws) (hS : va_S A s.heap H locs)
    (kk : ∀ (H1 : Heap) (locs1 : List Loc), va_P D vwCl ws' H1 → va_D A ws' → va_S A s.heap H1 locs1 → W p l e R s m args below meth c H1 locs1 0 0 Q (F0 m (pc + 3) ls (.int r :: rest))) : W p l e R s m args below meth c H locs 0 0 Q (F0 m pc ls st0) := by
  have hPc := va_Pm hP isC hcut.1
  have hDc := hD.sub isC hcut.2.2.1 hcut.1
  have hFc := va_free (wc := wc) hD hS hA isC hcut.1
  subst hst
  refine va_calli (va_runV S (hM H.size) cw ⟨kPre_blind hcl, va_recv hK hPc hci hb0, fun U hU hW => ⟨rfl, by rw [hU], by rw [hU]; exact hPc, va_K.moved hW.alike hK, hDc.weaken (fun _ _ _ _ => trivial), by rw [hU]; exact hcl.2.1 _ s U _ hW (hcl.2.2.2 _ _ _ _ (hcl.2.2.1 _ _ _ _ hE hS.2.1) hFc)⟩⟩ rfl hn hsize rfl (lv_room hW) hdg ⟨Nat.zero_le _, Nat.zero_le _⟩) hS (fun q _ h => hFc q h) hFc (fun x u t H1 locs1 ht hvm hw hB hz1 hk1 hS1 => ?_)
  obtain ⟨hP1, -, hD1⟩ := hB
  rw [ht] at hP1
  subst hw
  obtain ⟨a, b⟩ := hcut.join hP hD hFc hk1 hP1 hD1
  exact kk H1 locs1 a b hS1
theorem kVl {r : Int64} (S : CallFix p m c cc nL s args Ts own) (hK : va_K D vwCl tys s) (hA : ∀ q, s.heap.size ≤ q → A q) (hM : CtL l y wy rm D tys E wc (.ref b :: As) r wc') (hcl : clE E) (cw : CallW R s args own C index y bytes maxL ret wy rm 0 0 n) (hci : vwCl[ci]? = some (C, T, N)) (k0 : Nat) (hb0 : wc[k0]? = some (b, .inr (ci, fs)))
    (isC isR isN : List Nat) (hcut : Cut ws wc wc' ws' isC isR isN) (hE : E A s s.heap) (hn : As.length = n) (hsize : ls.size = nL) (hst : st0 = As.reverse ++ .ref b :: rest) (hW : (rest.map fun v => v.category).sum ≤ 8) (hdg : decode cc pc = .ok (.invokevirtual index, 3)) (hP : va_P D vwCl ws H) (hD : va_D A ws) (hS : va_S A s.heap H locs)
    (kk : ∀ (H1 : Heap) (locs1 : List Loc), va_P D vwCl ws' H1 → va_D A ws' → va_S A s.heap H1 locs1 → W p l e R s m args below meth c H1 locs1 0 0 Q (F0 m (pc + 3) ls (.long r :: rest))) : W p l e R s m args below meth c H locs 0 0 Q (F0 m pc ls st0) := by
  have hPc := va_Pm hP isC hcut.1
  have hDc := hD.sub isC hcut.2.2.1 hcut.1
  have hFc := va_free (wc := wc) hD hS hA isC hcut.1
  subst hst
  refine va_calll (va_runV S (hM H.size) cw ⟨kPre_blind hcl, va_recv hK hPc hci hb0, fun U hU hW => ⟨rfl, by rw [hU], by rw [hU]; exact hPc, va_K.moved hW.alike hK, hDc.weaken (fun _ _ _ _ => trivial), by rw [hU]; exact hcl.2.1 _ s U _ hW (hcl.2.2.2 _ _ _ _ (hcl.2.2.1 _ _ _ _ hE hS.2.1) hFc)⟩⟩ rfl hn hsize rfl (lv_room hW) hdg ⟨Nat.zero_le _, Nat.zero_le _⟩) hS (fun q _ h => hFc q h) hFc (fun x u t H1 locs1 ht hvm hw hB hz1 hk1 hS1 => ?_)
  obtain ⟨hP1, -, hD1⟩ := hB
  rw [ht] at hP1
  subst hw
  obtain ⟨a, b⟩ := hcut.join hP hD hFc hk1 hP1 hD1
  exact kk H1 locs1 a b hS1
theorem kVv (S : CallFix p m c cc nL s args Ts own) (hK : va_K D vwCl tys s) (hA : ∀ q, s.heap.size ≤ q → A q) (hM : CtV l y wy rm D tys E wc (.ref b :: As) wc') (hcl : clE E) (cw : CallW R s args own C index y bytes maxL ret wy rm 0 0 n) (hci : vwCl[ci]? = some (C, T, N)) (k0 : Nat) (hb0 : wc[k0]? = some (b, .inr (ci, fs)))
    (isC isR isN : List Nat) (hcut : Cut ws wc wc' ws' isC isR isN) (hE : E A s s.heap) (hn : As.length = n) (hsize : ls.size = nL) (hst : st0 = As.reverse ++ .ref b :: rest) (hW : (rest.map fun v => v.category).sum ≤ 8) (hdg : decode cc pc = .ok (.invokevirtual index, 3)) (hP : va_P D vwCl ws H) (hD : va_D A ws) (hS : va_S A s.heap H locs)
    (kk : ∀ (H1 : Heap) (locs1 : List Loc), va_P D vwCl ws' H1 → va_D A ws' → va_S A s.heap H1 locs1 → W p l e R s m args below meth c H1 locs1 0 0 Q (F0 m (pc + 3) ls rest)) : W p l e R s m args below meth c H locs 0 0 Q (F0 m pc ls st0) := by
  have hPc := va_Pm hP isC hcut.1
  have hDc := hD.sub isC hcut.2.2.1 hcut.1
  have hFc := va_free (wc := wc) hD hS hA isC hcut.1
  subst hst
  refine va_callv (va_runV S (hM H.size) cw ⟨kPre_blind hcl, va_recv hK hPc hci hb0, fun U hU hW => ⟨rfl, by rw [hU], by rw [hU]; exact hPc, va_K.moved hW.alike hK, hDc.weaken (fun _ _ _ _ => trivial), by rw [hU]; exact hcl.2.1 _ s U _ hW (hcl.2.2.2 _ _ _ _ (hcl.2.2.1 _ _ _ _ hE hS.2.1) hFc)⟩⟩ rfl hn hsize rfl (lv_room hW) hdg ⟨Nat.zero_le _, Nat.zero_le _⟩) hS (fun q _ h => hFc q h) hFc (fun u t H1 locs1 ht hvm hw hB hz1 hk1 hS1 => ?_)
  obtain ⟨hP1, -, hD1⟩ := hB
  rw [ht] at hP1
  obtain ⟨a, b⟩ := hcut.join hP hD hFc hk1 hP1 hD1
  exact kk H1 locs1 a b hS1
theorem kSi {r : Int32} (S : CallFix p m c cc nL s args Ts own) (hK : va_K D vwCl tys s) (hA : ∀ q, s.heap.size ≤ q → A q) (hM : CtI l y wy rm D tys E wc As r wc') (hcl : clE E) (cw : CallB R s args own index y bytes maxL ret wy rm 0 0 n ∧ (Cond.static y).before args s = true)
    (isC isR isN : List Nat) (hcut : Cut ws wc wc' ws' isC isR isN) (hE : E A s s.heap) (hn : As.length = n) (hsize : ls.size = nL) (hst : st0 = As.reverse ++ rest) (hW : (rest.map fun v => v.category).sum ≤ 8) (hdg : decode cc pc = .ok (.invokestatic index, 3)) (hP : va_P D vwCl ws H) (hD : va_D A ws) (hS : va_S A s.heap H locs)
    (kk : ∀ (H1 : Heap) (locs1 : List Loc), va_P D vwCl ws' H1 → va_D A ws' → va_S A s.heap H1 locs1 → W p l e R s m args below meth c H1 locs1 0 0 Q (F0 m (pc + 3) ls (.int r :: rest))) : W p l e R s m args below meth c H locs 0 0 Q (F0 m pc ls st0) := by
  have hPc := va_Pm hP isC hcut.1
  have hDc := hD.sub isC hcut.2.2.1 hcut.1
  have hFc := va_free (wc := wc) hD hS hA isC hcut.1
  subst hst
  refine va_calli (va_runS S (hM H.size) cw ⟨kPre_blind hcl, fun U hU hW => ⟨rfl, by rw [hU], by rw [hU]; exact hPc, va_K.moved hW.alike hK, hDc.weaken (fun _ _ _ _ => trivial), by rw [hU]; exact hcl.2.1 _ s U _ hW (hcl.2.2.2 _ _ _ _ (hcl.2.2.1 _ _ _ _ hE hS.2.1) hFc)⟩⟩ rfl hn hsize rfl (lv_room hW) hdg ⟨Nat.zero_le _, Nat.zero_le _⟩) hS (fun q _ h => hFc q h) hFc (fun x u t H1 locs1 ht hvm hw hB hz1 hk1 hS1 => ?_)
  obtain ⟨hP1, -, hD1⟩ := hB
  rw [ht] at hP1
  subst hw
  obtain ⟨a, b⟩ := hcut.join hP hD hFc hk1 hP1 hD1
  exact kk H1 locs1 a b hS1
theorem kSl {r : Int64} (S : CallFix p m c cc nL s args Ts own) (hK : va_K D vwCl tys s) (hA : ∀ q, s.heap.size ≤ q → A q) (hM : CtL l y wy rm D tys E wc As r wc') (hcl : clE E) (cw : CallB R s args own index y bytes maxL ret wy rm 0 0 n ∧ (Cond.static y).before args s = true)
    (isC isR isN : List Nat) (hcut : Cut ws wc wc' ws' isC isR isN) (hE : E A s s.heap) (hn : As.length = n) (hsize : ls.size = nL) (hst : st0 = As.reverse ++ rest) (hW : (rest.map fun v => v.category).sum ≤ 8) (hdg : decode cc pc = .ok (.invokestatic index, 3)) (hP : va_P D vwCl ws H) (hD : va_D A ws) (hS : va_S A s.heap H locs)
    (kk : ∀ (H1 : Heap) (locs1 : List Loc), va_P D vwCl ws' H1 → va_D A ws' → va_S A s.heap H1 locs1 → W p l e R s m args below meth c H1 locs1 0 0 Q (F0 m (pc + 3) ls (.long r :: rest))) : W p l e R s m args below meth c H locs 0 0 Q (F0 m pc ls st0) := by
  have hPc := va_Pm hP isC hcut.1
  have hDc := hD.sub isC hcut.2.2.1 hcut.1
  have hFc := va_free (wc := wc) hD hS hA isC hcut.1
  subst hst
  refine va_calll (va_runS S (hM H.size) cw ⟨kPre_blind hcl, fun U hU hW => ⟨rfl, by rw [hU], by rw [hU]; exact hPc, va_K.moved hW.alike hK, hDc.weaken (fun _ _ _ _ => trivial), by rw [hU]; exact hcl.2.1 _ s U _ hW (hcl.2.2.2 _ _ _ _ (hcl.2.2.1 _ _ _ _ hE hS.2.1) hFc)⟩⟩ rfl hn hsize rfl (lv_room hW) hdg ⟨Nat.zero_le _, Nat.zero_le _⟩) hS (fun q _ h => hFc q h) hFc (fun x u t H1 locs1 ht hvm hw hB hz1 hk1 hS1 => ?_)
  obtain ⟨hP1, -, hD1⟩ := hB
  rw [ht] at hP1
  subst hw
  obtain ⟨a, b⟩ := hcut.join hP hD hFc hk1 hP1 hD1
  exact kk H1 locs1 a b hS1
/-- fields -/
theorem kget (S : CallFix p m c cc nL s args Ts own) (hK : va_K D vwCl tys s) (hP : va_P D vwCl ws H) (hci : vwCl[ci]? = some (C, T, N)) (hin : ∀ w ∈ u_ws C T N, w ∈ Ts) (q0 : Nat) (he : ws[q0]? = some (b, .inr (ci, fs))) (k : Nat) (hk : k < N) (hlink : Cond.fieldLink own index (T k).1 (T k).2.1 (T k).2.2.1 ∈ Ts) {v : Value} (hv : fs[k]? = some v) (hdg : decode cc pc = .ok (.getfield index, 3))
    (kk : W p l e R s m args below meth c H locs 0 0 Q (F0 m (pc + 3) ls (v :: rest))) : W p l e R s m args below meth c H locs 0 0 Q (F0 m pc ls (.ref b :: rest)) :=
  va_get S.1 S.2.1 S.2.2.2.2 hin S.2.2.2.1 hK hP q0 he hci k hk (S.2.2.2.2 _ hlink) (fun _ h => h) hv hdg kk
theorem kput (S : CallFix p m c cc nL s args Ts own) (hK : va_K D vwCl tys s) (hP : va_P D vwCl ws H) (hD : va_D A ws) (hS : va_S A s.heap H locs) (hci : vwCl[ci]? = some (C, T, N)) (hin : ∀ w ∈ u_ws C T N, w ∈ Ts) {ty0 : Nat → FieldType} (hty : ∀ k, k < N → parseFieldDescriptor (T k).2.2.1 = some (ty0 k)) (hnm : ∀ a, a < N → ∀ b, b < N → a ≠ b → (T a).2.1 ≠ (T b).2.1) (q0 : Nat) (he : ws[q0]? = some (b, .inr (ci, fs))) (k : Nat) (hk : k < N) (hlink : Cond.fieldLink own index (T k).1 (T k).2.1 (T k).2.2.1 ∈ Ts) (hfin : (T k).2.2.2 = false) {v : Value} (hn : narrow (ty0 k) v = v) (hfit : fits (ty0 k) v = true) (hl : k < fs.length) {ws' : va_W} (hws : ws.set q0 (b, .inr (ci, fs.set k v)) = ws') (hdg : decode cc pc = .ok (.putfield index, 3))
    (kk : ∀ (H1 : Heap) (locs1 : List Loc), va_P D vwCl ws' H1 → va_D A ws' → va_S A s.heap H1 locs1 → W p l e R s m args below meth c H1 locs1 0 0 Q (F0 m (pc + 3) ls rest)) : W p l e R s m args below meth c H locs 0 0 Q (F0 m pc ls (v :: .ref b :: rest)) := by
  subst hws
  exact va_put S.1 S.2.1 S.2.2.2.2 hin ty0 hty hnm S.2.2.2.1 hK hP hD hS q0 he hci k hk (S.2.2.2.2 _ hlink) (fun _ h => h) hfin (hty k hk) hn hfit hl hdg kk
/-- arrays -/
theorem kial {cA : ClassId} {f : Nat → Int32} {L : Nat} (S : CallFix p m c cc nL s args Ts own) (hK : va_K D vwCl tys s) (hP : va_P D vwCl ws H) (q0 t0 : Nat) (ha : ws[q0]? = some (b, .inl (cA, L, .inl f))) (ht : tys[t0]? = some (cA, .int)) {i : Int32} (hin : vp_in i L) (hdg : decode cc pc = .ok (.iaload, 1))
    (kk : W p l e R s m args below meth c H locs 0 0 Q (F0 m (pc + 1) ls (.int (f i.toNatClampNeg) :: rest))) : W p l e R s m args below meth c H locs 0 0 Q (F0 m pc ls (.int i :: .ref b :: rest)) := va_iald S.1 S.2.1 hK hP q0 t0 ha ht hin hdg kk
theorem kzal {cA : ClassId} {f : Nat → Int32} {L : Nat} (S : CallFix p m c cc nL s args Ts own) (hK : va_K D vwCl tys s) (hP : va_P D vwCl ws H) (q0 t0 : Nat) (ha : ws[q0]? = some (b, .inl (cA, L, .inl f))) (ht : tys[t0]? = some (cA, .boolean)) {i : Int32} (hin : vp_in i L) (hdg : decode cc pc = .ok (.baload, 1))
    (kk : W p l e R s m args below meth c H locs 0 0 Q (F0 m (pc + 1) ls (.int (f i.toNatClampNeg) :: rest))) : W p l e R s m args below meth c H locs 0 0 Q (F0 m pc ls (.int i :: .ref b :: rest)) := va_zald S.1 S.2.1 hK hP q0 t0 ha ht hin hdg kk
theorem klal {cA : ClassId} {f : Nat → Int64} {L : Nat} (S : CallFix p m c cc nL s args Ts own) (hK : va_K D vwCl tys s) (hP : va_P D vwCl ws H) (q0 t0 : Nat) (ha : ws[q0]? = some (b, .inl (cA, L, .inr (.inl f)))) (ht : tys[t0]? = some (cA, .long)) {i : Int32} (hin : vp_in i L) (hdg : decode cc pc = .ok (.laload, 1))
    (kk : W p l e R s m args below meth c H locs 0 0 Q (F0 m (pc + 1) ls (.long (f i.toNatClampNeg) :: rest))) : W p l e R s m args below meth c H locs 0 0 Q (F0 m pc ls (.int i :: .ref b :: rest)) := va_lald S.1 S.2.1 hK hP q0 t0 ha ht hin hdg kk
theorem kias {cA : ClassId} {f : Nat → Int32} {L : Nat} (S : CallFix p m c cc nL s args Ts own) (hK : va_K D vwCl tys s) (hP : va_P D vwCl ws H) (hD : va_D A ws) (hS : va_S A s.heap H locs) (q0 t0 : Nat) (ha : ws[q0]? = some (b, .inl (cA, L, .inl f))) (ht : tys[t0]? = some (cA, .int)) {i x : Int32} (hin : vp_in i L) {ws' : va_W} (hws : ws.set q0 (b, .inl (cA, L, .inl (upd f i.toNatClampNeg x))) = ws') (hdg : decode cc pc = .ok (.iastore, 1))
    (kk : ∀ (H1 : Heap) (locs1 : List Loc), va_P D vwCl ws' H1 → va_D A ws' → va_S A s.heap H1 locs1 → W p l e R s m args below meth c H1 locs1 0 0 Q (F0 m (pc + 1) ls rest)) : W p l e R s m args below meth c H locs 0 0 Q (F0 m pc ls (.int x :: .int i :: .ref b :: rest)) := by
  subst hws
  exact va_iast S.1 S.2.1 hK hP hD hS q0 t0 ha ht hin hdg kk
theorem kzas {cA : ClassId} {f : Nat → Int32} {L : Nat} (S : CallFix p m c cc nL s args Ts own) (hK : va_K D vwCl tys s) (hP : va_P D vwCl ws H) (hD : va_D A ws) (hS : va_S A s.heap H locs) (q0 t0 : Nat) (ha : ws[q0]? = some (b, .inl (cA, L, .inl f))) (ht : tys[t0]? = some (cA, .boolean)) {i x : Int32} (hin : vp_in i L) {ws' : va_W} (hws : ws.set q0 (b, .inl (cA, L, .inl (upd f i.toNatClampNeg (vp_nar .boolean x)))) = ws') (hdg : decode cc pc = .ok (.bastore, 1))
    (kk : ∀ (H1 : Heap) (locs1 : List Loc), va_P D vwCl ws' H1 → va_D A ws' → va_S A s.heap H1 locs1 → W p l e R s m args below meth c H1 locs1 0 0 Q (F0 m (pc + 1) ls rest)) : W p l e R s m args below meth c H locs 0 0 Q (F0 m pc ls (.int x :: .int i :: .ref b :: rest)) := by
  subst hws
  exact va_zast S.1 S.2.1 hK hP hD hS q0 t0 ha ht hin hdg kk
theorem klas {cA : ClassId} {f : Nat → Int64} {L : Nat} (S : CallFix p m c cc nL s args Ts own) (hK : va_K D vwCl tys s) (hP : va_P D vwCl ws H) (hD : va_D A ws) (hS : va_S A s.heap H locs) (q0 t0 : Nat) (ha : ws[q0]? = some (b, .inl (cA, L, .inr (.inl f)))) (ht : tys[t0]? = some (cA, .long)) {i : Int32} {x : Int64} (hin : vp_in i L) {ws' : va_W} (hws : ws.set q0 (b, .inl (cA, L, .inr (.inl (vp_updL f i.toNatClampNeg x)))) = ws') (hdg : decode cc pc = .ok (.lastore, 1))
    (kk : ∀ (H1 : Heap) (locs1 : List Loc), va_P D vwCl ws' H1 → va_D A ws' → va_S A s.heap H1 locs1 → W p l e R s m args below meth c H1 locs1 0 0 Q (F0 m (pc + 1) ls rest)) : W p l e R s m args below meth c H locs 0 0 Q (F0 m pc ls (.long x :: .int i :: .ref b :: rest)) := by
  subst hws
  exact va_last S.1 S.2.1 hK hP hD hS q0 t0 ha ht hin hdg kk
end CALLS
theorem plX0 : plainName RX0 = true := by decide +kernel
theorem plX1 : plainName RX1 = true := by decide +kernel
theorem plX2 : plainName RX2 = true := by decide +kernel
theorem plX3 : plainName RX3 = true := by decide +kernel
theorem plX4 : plainName RX4 = true := by decide +kernel
theorem plX5 : plainName RX5 = true := by decide +kernel
theorem plX6 : plainName RX6 = true := by decide +kernel
theorem plX7 : plainName RX7 = true := by decide +kernel
theorem plJ6 : plainName RJ6 = true := by decide +kernel
theorem nar0 : narrow .boolean (.int 0) = .int 0 := rfl
theorem nar1 : narrow .boolean (.int 1) = .int 1 := rfl
theorem plJ0 : plainName RJ0 = true := by decide +kernel
theorem plJ1 : plainName RJ1 = true := by decide +kernel
theorem plJ3 : plainName RJ3 = true := by decide +kernel
