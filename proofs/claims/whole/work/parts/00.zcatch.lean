/-! a thrown object comes to a row of the method's own table (written here, since the shelf that has such a law isn't at hand in a round) -/
section ZC
variable {e : Env} {f : JFrame} {a : Addr}
/-- the search of a handler ends at pc, with the tables vm', whatever is asked behind it -/
def zc_to (e : Env) (s : State) (f : JFrame) (a : Addr) (rows : List ExceptionTableEntry) (pc : Nat) (vm' : Vm) : Prop :=
  ∀ (Q : Handler → Pre) (E : CtlPost) (d : Bool) (acts : List Action), wp (findHandler.go f a rows) Q E e d acts s ↔ Q (.found pc) d acts (s.setVm vm')
/-- a row that covers the place and names a class: the class is linked, then it takes the object or not -/
theorem zc_row {Q : Handler → Pre} {E : CtlPost} {d : Bool} {acts : List Action} {s : State} {x : ExceptionTableEntry} {t : List ExceptionTableEntry} {k : ClassId} {cell : Cell} (hx : covers x f.pc = true) (h0 : x.catchType ≠ 0) (hl : s.vm.ClassLinks e.platform f.method.cls x.catchType k) (hcell : s.heap[a]? = some cell) (hobj : ∀ j, cell.vm ≠ .statics j) (hk : ∃ j, s.vm.classes[cell.cls]? = some j) (hc : ∃ j, s.vm.classes[k]? = some j) :
    (s.vm.assignable cell.cls k = true → (wp (findHandler.go f a (x :: t)) Q E e d acts s ↔ Q (.found x.handlerPc) d acts (s.setVm (s.vm.noted f.method.cls x.catchType (.cls k))))) ∧ (s.vm.assignable cell.cls k = false → (wp (findHandler.go f a (x :: t)) Q E e d acts s ↔ wp (findHandler.go f a t) Q E e d acts (s.setVm (s.vm.noted f.method.cls x.catchType (.cls k))))) := by
  simp only [covers] at hx
  have hal : s.vm.Alike (s.vm.noted f.method.cls x.catchType (.cls k)) := (Vm.Alike.refl s.vm).noted _ _ _
  obtain ⟨op1, op2⟩ := (resolveClass_links e.toSetting hl).op (op := VmOp.resolveClass f.method.cls x.catchType) rfl
  obtain ⟨j1, hj1⟩ := hk
  obtain ⟨j2, hj2⟩ := hc
  obtain ⟨j1', hj1', -⟩ := hal.2.2 _ _ hj1
  obtain ⟨j2', hj2', -⟩ := hal.2.2 _ _ hj2
  have has : (s.vm.noted f.method.cls x.catchType (.cls k)).assignable cell.cls k = s.vm.assignable cell.cls k := by rw [hal.assignable]
  refine ⟨fun hy => ?_, fun hn => ?_⟩
  · rw [← has] at hy
    simp [findHandler.go, hx, h0, op1, op2, hcell, hobj, hj1', hj2', hy, VmOp.dirties, VmOp.acts]
  · rw [← has] at hn
    simp [findHandler.go, hx, h0, op1, op2, hcell, hobj, hj1', hj2', hn, VmOp.dirties, VmOp.acts]
/-- a row that lets it by: it doesn't cover the place, or names a class that doesn't take the object -/
def zc_by (pl : Platform) (s : State) (d : ClassId) (pc : Nat) (th : ClassId) (z : ExceptionTableEntry) : Prop := covers z pc = false ∨ (z.catchType ≠ 0 ∧ ∃ k, s.vm.ClassLinks pl d z.catchType k ∧ s.vm.assignable th k = false)
theorem zc_go {s : State} {cell : Cell} {x : ExceptionTableEntry} {suf : List ExceptionTableEntry} {k : ClassId} (hobj : ∀ j, cell.vm ≠ .statics j) (hk : ∃ j, s.vm.classes[cell.cls]? = some j) (hx : covers x f.pc = true) (h0 : x.catchType ≠ 0) (hl : s.vm.ClassLinks e.platform f.method.cls x.catchType k) (hy : s.vm.assignable cell.cls k = true) :
    ∀ (pre : List ExceptionTableEntry) (S : State), s.WarmedH S.vm → S.heap[a]? = some cell → (∀ z ∈ pre, zc_by e.platform s f.method.cls f.pc cell.cls z) → ∃ vm', s.WarmedH vm' ∧ zc_to e S f a (pre ++ x :: suf) x.handlerPc vm' := by
  obtain ⟨j, hj⟩ := hk
  intro pre
  induction pre with
  | nil =>
    intro S hW hc _
    obtain ⟨j', hj', -⟩ := hW.alike.2.2 _ _ hj
    obtain ⟨dk, _, _, kt, hd, _, _, _, _, hkt, _, hopen⟩ := hl.here
    obtain ⟨kt', hkt', -⟩ := hW.alike.2.2 _ _ hkt
    exact ⟨_, hW.noted hd hopen (State.rightAt_cls hl), fun Q E d acts => (zc_row hx h0 (hW.classLinks hl) hc hobj ⟨j', hj'⟩ ⟨kt', hkt'⟩).1 (by rw [hW.alike.assignable]; exact hy)⟩
  | cons z zs ih =>
    intro S hW hc hby
    obtain ⟨j', hj', -⟩ := hW.alike.2.2 _ _ hj
    have hby' : ∀ w ∈ zs, zc_by e.platform s f.method.cls f.pc cell.cls w := fun w hw => hby w (List.mem_cons_of_mem _ hw)
    cases hcz : covers z f.pc with
    | false =>
      obtain ⟨vm', hW', h⟩ := ih S hW hc hby'
      exact ⟨vm', hW', fun Q E d acts => by rw [List.cons_append, W.findHandler_go_skip hcz]; exact h Q E d acts⟩
    | true =>
      rcases hby z List.mem_cons_self with h | ⟨hz0, kz, hlz, hnz⟩
      · rw [hcz] at h; cases h
      · obtain ⟨dk, _, _, kt, hd, _, _, _, _, hkt, _, hopen⟩ := hlz.here
        obtain ⟨kt', hkt', -⟩ := hW.alike.2.2 _ _ hkt
        obtain ⟨vm', hW', h⟩ := ih (S.setVm (S.vm.noted f.method.cls z.catchType (.cls kz))) (hW.noted hd hopen (State.rightAt_cls hlz)) hc hby'
        exact ⟨vm', hW', fun Q E d acts => by
          rw [List.cons_append, (zc_row hcz hz0 (hW.classLinks hlz) hc hobj ⟨j', hj'⟩ ⟨kt', hkt'⟩).2 (by rw [hW.alike.assignable]; exact hnz)]
          exact h Q E d acts⟩
end ZC
section ZD
variable {p : Program} {l : Launch} {e : Env} {R : Room} {s : State} {m : MethodId} {args : Array Value} {below : List Frame} {meth : Method} {c : Code} {T : State} {locs : List Loc} {cells slots : Nat}
/-- the frame g with the object a thrown over it goes on at the row's handler -/
theorem zc_caught (X : Stand p l e R s m args below meth c T locs cells slots) (a : Addr) {g : JFrame} (hg : g.method = m) {cell : Cell} (hcell : T.heap[a]? = some cell) (hobj : cell.vm.isStatics = false) (hk : ∃ j, s.vm.classes[cell.cls]? = some j) (pre : List ExceptionTableEntry) (x : ExceptionTableEntry) (suf : List ExceptionTableEntry) (hsplit : c.exceptionTable.toList = pre ++ x :: suf)
    (hby : ∀ z ∈ pre, zc_by e.platform s m.cls g.pc cell.cls z) (hx : covers x g.pc = true) (h0 : x.catchType ≠ 0) {k : ClassId} (hl : s.vm.ClassLinks e.platform m.cls x.catchType k) (hy : s.vm.assignable cell.cls k = true) :
    ∃ vm', Stand p l e R s m args below meth c (T.setVm vm') locs cells slots ∧ ∀ tg, Steps p.tables e below ((T.setVm vm').setTop { g with pc := x.handlerPc, stack := [.ref a] }) tg → Steps p.tables e below ((T.setTop g).pushFrame (.throwing a)) tg := by
  subst hg
  obtain ⟨vm', hW', hf⟩ := zc_go (e := e) (f := g) (a := a) (suf := suf) (VmData.ne_statics_of hobj) hk hx h0 hl hy pre ((T.setTop g).pushFrame (.throwing a)) X.warmed hcell hby
  refine ⟨vm', X.noted hW', fun tg hrest => ?_⟩
  have hh := X.here
  obtain ⟨hgo, hw⟩ := hh.throwing a (g := g)
  refine Steps.head hgo hw ?_
  have hfind : ∀ (Q : Handler → Pre) (E : CtlPost) (d : Bool) (acts : List Action), wp (findHandler g a) Q E e d acts ((T.setTop g).pushFrame (.throwing a)) ↔ Q (.found x.handlerPc) d acts (((T.setTop g).pushFrame (.throwing a)).setVm vm') := fun Q E d acts => by
    rw [W.findHandler_eq (s := (T.setTop g).pushFrame (.throwing a)) (meth := meth) (code := c) X.method' X.code, hsplit]
    exact hf Q E d acts
  have hst : ∀ r : List Frame, (stepThrowing e ((T.setTop g).pushFrame (.throwing a)) a (.java g :: r)).Is ((((T.setTop g).pushFrame (.throwing a)).setVm vm').setFrames (.java { g with pc := x.handlerPc, stack := [.ref a] } :: r)) [] := by
    intro r
    simp only [stepThrowing, searchFrame, vmDo]
    generalize hr : Sem.go _ e false [] ((T.setTop g).pushFrame (.throwing a)) = res
    obtain ⟨as, rfl, ha⟩ := Sem.eq_ok_of hr (a := Handler.found x.handlerPc) (s' := ((T.setTop g).pushFrame (.throwing a)).setVm vm') (acts' := []) (by simp [hfind])
    exact ⟨rfl, ha⟩
  rw [stepThread_throwing (frames_entered hh.top _), (hst _).1]
  obtain ⟨g₀, hg0⟩ := Option.isSome_iff_exists.mp hh.top
  obtain ⟨r, hr⟩ := State.topJava?_eq_some.mp hg0
  have hr' : (T.setVm vm').frames = .java g₀ :: r := hr
  have two : ∀ (u : State) (F G : List Frame), ((u.setFrames F).setVm vm').setFrames G = (u.setVm vm').setFrames G := fun u F G => by
    rw [show (u.setFrames F).setVm vm' = (u.setVm vm').setFrames F from rfl, State.setFrames_setFrames]
  rw [State.setTop_of_frames _ hr'] at hrest
  rw [hr, List.tail_cons, State.pushFrame, two, State.setTop_of_frames _ hr, two]
  exact hrest
end ZD
