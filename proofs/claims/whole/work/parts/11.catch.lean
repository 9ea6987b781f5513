/-! A handler of the method's own: earlier clauses are passed, each entry of the pool cold or warm. -/
section Go
variable {Q : Handler → Pre} {E : CtlPost} {e : Env} {d : Bool} {acts : List Action} {u : State} {f : JFrame} {a : Addr}
theorem go_step {x : ExceptionTableEntry} {t : List ExceptionTableEntry} {cT : ClassId} {cell : Cell} (hx : covers x f.pc = true) (h0 : x.catchType ≠ 0)
    (hl : u.vm.ClassLinks e.platform f.method.cls x.catchType cT) (hcell : u.heap[a]? = some cell) (hobj : ∀ k, cell.vm ≠ .statics k) (hk : ∃ k, u.vm.classes[cell.cls]? = some k) (hc : ∃ k, u.vm.classes[cT]? = some k) :
    wp (findHandler.go f a (x :: t)) Q E e d acts u ↔ if u.vm.assignable cell.cls cT = true then Q (.found x.handlerPc) d acts (u.setVm (u.vm.noted f.method.cls x.catchType (.cls cT))) else wp (findHandler.go f a t) Q E e d acts (u.setVm (u.vm.noted f.method.cls x.catchType (.cls cT))) := by
  simp only [covers] at hx
  obtain ⟨ha, ht⟩ := (resolveClass_links e.toSetting hl).op (op := VmOp.resolveClass f.method.cls x.catchType) rfl
  have hal : u.vm.Alike (u.vm.noted f.method.cls x.catchType (.cls cT)) := (Vm.Alike.refl u.vm).noted _ _ _
  obtain ⟨k1, hk1⟩ := hk
  obtain ⟨k2, hk2⟩ := hc
  obtain ⟨k1', hk1', -⟩ := hal.2.2 _ _ hk1
  obtain ⟨k2', hk2', -⟩ := hal.2.2 _ _ hk2
  have hsame : (u.vm.noted f.method.cls x.catchType (.cls cT)).assignable cell.cls cT = u.vm.assignable cell.cls cT := by rw [hal.assignable]
  cases hfit : u.vm.assignable cell.cls cT <;> rw [hfit] at hsame <;>
    simp [findHandler.go, hx, h0, ha, ht, hcell, hobj, hk1', hk2', hsame, VmOp.dirties, VmOp.acts]
end Go
/-- what a clause's class is to the object: linked by the word, and assignable or not -/
def zCl1 (s : State) (args : Array Value) (own : String) (cell : Cell) (pc : Nat) (b : Bool) (x : ExceptionTableEntry) : Prop :=
  covers x pc = true ∧ x.catchType ≠ 0 ∧ ∃ (name : String) (cT : ClassId), (Cond.classLink own x.catchType name).before args s = true ∧ s.vm.findClass name = some cT ∧ s.vm.assignable cell.cls cT = b
theorem go_all {e : Env} {s u : State} {f : JFrame} {a : Addr} {args : Array Value} {own : String} {cell : Cell} {x : ExceptionTableEntry} {rest : List ExceptionTableEntry} (hpl : e.platform.magicAccessors = ({} : Platform).magicAccessors) (hown : s.vm.findClass own = some f.method.cls) (hcell : u.heap[a]? = some cell) (hobj : cell.vm.isStatics = false)
    (hkc : ∃ k, s.vm.classes[cell.cls]? = some k) (hx : zCl1 s args own cell f.pc true x) :
    ∀ (pre : List ExceptionTableEntry), (∀ y ∈ pre, zCl1 s args own cell f.pc false y) → ∀ vm : Vm, s.WarmedH vm → ∃ vm', s.WarmedH vm' ∧ ∀ (Q : Handler → Pre) (E : CtlPost) (d : Bool) (acts : List Action), wp (findHandler.go f a (pre ++ x :: rest)) Q E e d acts (u.setVm vm) ↔ Q (.found x.handlerPc) d acts (u.setVm vm') := by
  have one : ∀ (b : Bool) (y : ExceptionTableEntry), zCl1 s args own cell f.pc b y → ∀ vm : Vm, s.WarmedH vm → ∃ vm', s.WarmedH vm' ∧ ∀ (t : List ExceptionTableEntry) (Q : Handler → Pre) (E : CtlPost) (d : Bool) (acts : List Action), wp (findHandler.go f a (y :: t)) Q E e d acts (u.setVm vm) ↔ if b = true then Q (.found y.handlerPc) d acts (u.setVm vm') else wp (findHandler.go f a t) Q E e d acts (u.setVm vm') := by
    intro b y hy vm hW
    obtain ⟨h1, h2, name, cT, h3, h4, h5⟩ := hy
    obtain ⟨c', hc', hcl⟩ := Cond.classLink_spec hown h3 e.platform hpl
    cases h4.symm.trans hc'
    obtain ⟨dk, _, _, kt, hd, _, _, _, _, hkt, _, hopen⟩ := id hcl.here
    refine ⟨vm.noted f.method.cls y.catchType (.cls cT), hW.noted hd hopen (State.rightAt_cls hcl), fun t Q E d acts => ?_⟩
    obtain ⟨kt', hkt', -⟩ := hW.alike.2.2 _ _ hkt
    obtain ⟨kc, hkc⟩ := hkc
    obtain ⟨kc', hkc', -⟩ := hW.alike.2.2 _ _ hkc
    have hg := go_step (Q := Q) (E := E) (e := e) (d := d) (acts := acts) (u := u.setVm vm) (f := f) (a := a) (x := y) (t := t) (cT := cT) (cell := cell) h1 h2 (hW.classLinks hcl) hcell (VmData.ne_statics_of hobj) ⟨kc', hkc'⟩ ⟨kt', hkt'⟩
    have ha : (u.setVm vm).vm.assignable cell.cls cT = b := by
      show vm.assignable cell.cls cT = b
      rw [hW.alike.assignable]; exact h5
    rw [hg, ha]
    rfl
  intro pre
  induction pre with
  | nil =>
    intro _ vm hW
    obtain ⟨vm', hW', h⟩ := one true x hx vm hW
    exact ⟨vm', hW', fun Q E d acts => by rw [List.nil_append, h]; simp⟩
  | cons y ys ih =>
    intro hp vm hW
    obtain ⟨vm1, hW1, h1⟩ := one false y (hp y List.mem_cons_self) vm hW
    obtain ⟨vm', hW', h2⟩ := ih (fun z hz => hp z (List.mem_cons_of_mem _ hz)) vm1 hW1
    exact ⟨vm', hW', fun Q E d acts => by rw [List.cons_append, h1]; simpa using h2 Q E d acts⟩
section Ct
variable {p : Program} {l : Launch} {e : Env} {R : Room} {s : State} {m : MethodId} {args : Array Value} {below : List Frame} {meth : Method} {c : Code} {T : State} {locs : List Loc} {cells slots : Nat}
theorem caught (X : Stand p l e R s m args below meth c T locs cells slots) (a : Addr) {g : JFrame} (hg : g.method = m) {own : String} (hown : s.vm.findClass own = some m.cls) {cell : Cell} (hcell : T.heap[a]? = some cell) (hobj : cell.vm.isStatics = false) (hkc : ∃ k, s.vm.classes[cell.cls]? = some k)
    {pre rest : List ExceptionTableEntry} {x : ExceptionTableEntry} (hsplit : c.exceptionTable.toList = pre ++ x :: rest) (hpre : ∀ y ∈ pre, zCl1 s args own cell g.pc false y) (hx : zCl1 s args own cell g.pc true x) :
    ∃ vm', Stand p l e R s m args below meth c (T.setVm vm') locs cells slots ∧ ∀ target, Steps p.tables e below ((T.setVm vm').setTop { g with pc := x.handlerPc, stack := [.ref a] }) target → Steps p.tables e below ((T.setTop g).pushFrame (.throwing a)) target := by
  have hpl : e.platform.magicAccessors = ({} : Platform).magicAccessors := by rw [X.admits.platform]
  subst hg
  have hcell' : ((T.setTop g).pushFrame (.throwing a)).heap[a]? = some cell := by rw [Stand.throwing_heap]; exact hcell
  obtain ⟨vm', hW', hgo⟩ := go_all (e := e) (u := (T.setTop g).pushFrame (.throwing a)) (f := g) (a := a) (rest := rest) hpl hown hcell' hobj hkc hx pre hpre T.vm X.warmed
  have hself : ((T.setTop g).pushFrame (.throwing a)).setVm T.vm = (T.setTop g).pushFrame (.throwing a) := by rw [← Stand.throwing_vm T g a, State.setVm_self]
  rw [hself] at hgo
  refine ⟨vm', X.noted hW', fun target hrest => ?_⟩
  obtain ⟨hgo1, hw⟩ := X.here.throwing a
  refine Steps.head hgo1 hw ?_
  obtain ⟨g₀, hr⟩ := X.frames_eq
  have hfind : ∀ (Q : Handler → Pre) (E : CtlPost) (d : Bool) (acts : List Action), wp (findHandler g a) Q E e d acts ((T.setTop g).pushFrame (.throwing a)) ↔ Q (.found x.handlerPc) d acts (((T.setTop g).pushFrame (.throwing a)).setVm vm') := fun Q E d acts => by
    rw [W.findHandler_eq (s := (T.setTop g).pushFrame (.throwing a)) (meth := meth) (code := c) (by rw [Stand.throwing_vm]; exact X.method') X.code, hsplit]
    exact hgo Q E d acts
  have hst : (stepThrowing e ((T.setTop g).pushFrame (.throwing a)) a (.java g :: below)).Is ((((T.setTop g).pushFrame (.throwing a)).setVm vm').setFrames (.java { g with pc := x.handlerPc, stack := [.ref a] } :: below)) [] := by
    simp only [stepThrowing, searchFrame, vmDo]
    generalize hr : Sem.go _ e false [] ((T.setTop g).pushFrame (.throwing a)) = res
    obtain ⟨as, rfl, ha⟩ := Sem.eq_ok_of hr (a := Handler.found x.handlerPc) (s' := ((T.setTop g).pushFrame (.throwing a)).setVm vm') (acts' := []) (by simp [hfind _ _ _ _])
    exact ⟨rfl, ha⟩
  rw [stepThread_throwing (frames_entered X.here.top _), X.tail, hst.1]
  have hr' : (T.setVm vm').frames = .java g₀ :: below := hr
  rw [State.setTop_of_frames _ hr'] at hrest
  have he : (((T.setTop g).pushFrame (.throwing a)).setVm vm').setFrames (.java { g with pc := x.handlerPc, stack := [.ref a] } :: below) = (T.setVm vm').setFrames (.java { g with pc := x.handlerPc, stack := [.ref a] } :: below) := by
    show (((T.setTop g).pushFrame (.throwing a)).setFrames _).setVm vm' = (T.setFrames _).setVm vm'
    rw [State.pushFrame, State.setFrames_setFrames, State.setTop_of_frames _ hr, State.setFrames_setFrames]
  rw [he]
  exact hrest
end Ct
