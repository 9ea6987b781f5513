/-! The invoking instructions' own step (zInv), and the rows for a callee that returns and for one that throws, passed on. -/
def zInv (G : zG) (M N : zM) (pc : Nat) (w : zW) (a st st0 : List Value) : Prop :=
  ∀ (p : Program) (e : Env) (s : State) (m : MethodId) (args : Array Value) (below : List Frame) (meth : Method) (c : Code) (ls : Array Slot) (locs : List Loc) (n1 n2 : Nat) (T : State), zE G M p e s m args meth c → zR G w T.heap locs → Stand p (gL G) e (mR M) s m args below meth c T locs n1 n2 → ls.size = mL M →
    ∃ (mk : MethodId) (vm₁ : Vm) (ig : Instr), Stand p (gL G) e (mR M) s m args below meth c (T.setVm vm₁) locs n1 n2 ∧ (T.setVm vm₁).methodNamed? (mY N) = some mk ∧ decode c.code pc = .ok (ig, 3) ∧
      ∀ target, Steps p.tables e below (doInvoke e ((T.setVm vm₁).setTop (F0 m pc ls st)) [] mk a.toArray).1 target → Steps p.tables e below (T.setTop (F0 m pc ls st0)) target
/-- what is the same of every callee: its words, its room in ours -/
def zFit (M N : zM) : Prop := (Cond.code (mY N) (mC N) (mL N) (mT N) ∈ zTb ∨ Cond.codeWith (mY N) (mC N) (mL N) (mT N) (mH N) ∈ zTb) ∧ Cond.initialized (mY N).cls ∈ zTb ∧ (mR N).frames + 1 ≤ (mR M).frames ∧ 8 + (mL N + 11) + (mR N).locals ≤ (mR M).locals
theorem zR.more {G : zG} {w : zW} {H : Heap} {locs L : List Loc} (h : zR G w H L) (hl : ∀ q ∈ locs, zA G q.base) : zR G w H (locs ++ L) :=
  ⟨h.1, ⟨h.2.1.1, h.2.1.2.1, fun q hq => (List.mem_append.mp hq).elim (hl q) (h.2.1.2.2 q)⟩, h.2.2⟩
section C
variable {G : zG} {M N : zM} {pc : Nat} {lv : List (Nat × Value)} {st st0 a : List Value} {w w1 w2 : zW} {n1 n2 : Nat} {o : Outcome}
theorem V_call {v : Option Value} (I : zInv G M N pc w a st st0) (F : zFit M N) (hs : (st.map fun v => v.category).sum ≤ 8) (h3 : n1 + (mR N).cells ≤ (mR M).cells) (h4 : n2 + (mR N).slots ≤ (mR M).slots) (hC : zCT G N a w (.returned v) w2)
    (kk : zV G M (pc + 3) lv (v.toList ++ st) w2 (n1 + (mR N).cells) (n2 + (mR N).slots) o w1) : zV G M pc lv st0 w n1 n2 o w1 := by
  intro p e s m args below meth c H ls locs E hl hR T hT X
  subst hT
  obtain ⟨mk, vm₁, ig, X₁, hn, hdg, go⟩ := I p e s m args below meth c ls locs n1 n2 T E hR X hl.1
  have hR1 : zR G w (T.setVm vm₁).heap locs := hR
  obtain ⟨t, L, st1, hend, r1, r2, r3⟩ := zcall (N := N) X₁ E hR1 (g := F0 m pc ls st) rfl (hl.1.trans E.2.2.2.1.symm) hdg hn F.1 F.2.1 F.2.2.1 (by
    have h := F.2.2.2
    have : 2 * (F0 m pc ls st).monitorRoom = 0 := rfl
    rw [this]
    show 0 + (st.map fun v => v.category).sum + (mL N + 11) + (mR N).locals ≤ (mR M).locals
    omega) h3 h4 hC
  obtain ⟨T', X', hW', hsame', ht⟩ := X₁.outOf (g := F0 m pc ls st) rfl hdg hend r2 r3
  have hh : t.heap = T'.heap := by rw [ht]; rfl
  rw [hh] at r1
  obtain ⟨t2, a1, b1⟩ := kk p e s m args below meth c T'.heap ls (locs ++ L) E hl (r1.more hR.2.1.2.2) T' rfl X'
  rw [ht] at st1
  exact ⟨t2, go _ (st1.trans a1), b1⟩
theorem V_callT {x : Nat} (I : zInv G M N pc w a st st0) (F : zFit M N) (hs : (st.map fun v => v.category).sum ≤ 8) (h3 : n1 + (mR N).cells ≤ (mR M).cells) (h4 : n2 + (mR N).slots ≤ (mR M).slots) (hC : zCT G N a w (.threw x) w2)
    (hout : (tableOf (mH M)).all (fun x => !covers x pc) = true) : zV G M pc lv st0 w n1 n2 (.threw x) w2 := by
  intro p e s m args below meth c H ls locs E hl hR T hT X
  subst hT
  obtain ⟨mk, vm₁, ig, X₁, hn, hdg, go⟩ := I p e s m args below meth c ls locs n1 n2 T E hR X hl.1
  have hR1 : zR G w (T.setVm vm₁).heap locs := hR
  obtain ⟨t, L, st1, hend, r1, r2, r3⟩ := zcall (N := N) X₁ E hR1 (g := F0 m pc ls st) rfl (hl.1.trans E.2.2.2.1.symm) hdg hn F.1 F.2.1 F.2.2.1 (by
    have h := F.2.2.2
    have : 2 * (F0 m pc ls st).monitorRoom = 0 := rfl
    rw [this]
    show 0 + (st.map fun v => v.category).sum + (mL N + 11) + (mR N).locals ≤ (mR M).locals
    omega) h3 h4 hC
  obtain ⟨T', X', hW', hsame', ht⟩ := X₁.outOfThrown (g := F0 m pc ls st) rfl hend r2 r3
  have hh : t.heap = T'.heap := by rw [ht]; exact Stand.throwing_heap _ _ _
  rw [hh] at r1
  have hlocks : meth.locks = false := E.2.2.2.2.2.1
  obtain ⟨hwalk, q1, q2, q3, q4⟩ := X'.leaveThrown x (g := F0 m pc ls st) rfl rfl rfl (outside_of_table E.2.2.2.2.2.2.2.1 hout) hlocks
  rw [ht] at st1
  refine ⟨_, go _ (st1.trans hwalk), locs ++ L, q1, q2, r1.more hR.2.1.2.2, q3, q4.mono h3 h4⟩
/-- invokevirtual on an object of the world -/
theorem inv_V {ci i q : Nat} {C : String} {T : u_T} {K : Nat} {As : List Value} {fs : List zF} (hd : decode (mC M) pc = .ok (.invokevirtual i, 3)) (hw : zobj w q ci = some fs) (hc : zCl[ci]? = some (C, T, K)) (hlink : Cond.methodLink (mY M).cls i (mY N) ∈ zTb) (hinst : Cond.instanceMethod (mY N) ∈ zTb) (hsel : Cond.selects C (mY N) (mY N) ∈ zTb)
    (hcode : Cond.code (mY N) (mC N) (mL N) (mT N) ∈ zTb) (hy : (mY N).cls ≠ "java/lang/invoke/MethodHandle" ∧ (mY N).cls ≠ "java/lang/invoke/VarHandle" ∧ (parseMethodDescriptor (mY N).desc).map (fun d => d.parameters.length) = some As.length) :
    zInv G M N pc w (.ref (z0 G + q) :: As) st (As.reverse ++ .ref (z0 G + q) :: st) := by
  intro p e s m args below meth c ls locs n1 n2 T E hR X hsz
  have hts := E.2.2.2.2.2.2.2.2.1
  obtain ⟨mk, methM, hnamed, hmethM, hstM, habM⟩ := Cond.instanceMethod_spec (hts _ hinst)
  obtain ⟨methM', cM, hmethM', -, -, -, -, -, -, hsigM⟩ := Cond.code_spec hnamed (hts _ hcode)
  cases hmethM.symm.trans hmethM'
  obtain ⟨cellB, hcell, hobj, hcls⟩ := va_recv E.2.2.2.2.2.2.2.2.2.1.1 hR.1 hc (wsO_at (G := G) (zobj_at hw))
  obtain ⟨c2, r2, m2, q1, q2, q3, q4, kP, hkP, hkPi⟩ := Cond.selects_spec (hts _ hsel)
  cases hcls.symm.trans q1
  cases (State.methodFound?_of_named hnamed ⟨hy.1, hy.2.1⟩).symm.trans q2
  cases hnamed.symm.trans q3
  have hselP : selectMethod e.platform s.vm cellB.cls mk = .method mk := by rw [Launch.admits_selectMethod X.admits]; exact q4
  have hdg : decode c.code pc = .ok (.invokevirtual i, 3) := by rw [E.2.1]; exact hd
  have hlen : As.length = methM.sig.parameters.length := by
    have h := hy.2.2
    rw [hsigM] at h
    exact (Option.some.inj h).symm
  obtain ⟨vm₁, X₁, hstep₁⟩ := X.invokevirtual E.1 E.2.2.2.2.1 (hts _ hlink) hnamed hmethM hstM hkP hkPi ⟨hy.1, hy.2.1⟩ (a := z0 G + q) (cell := cellB) hcell
    (fun z h => by rw [h] at hobj; cases hobj) hselP hmethM habM hkP hkPi (g := F0 m pc ls (As.reverse ++ .ref (z0 G + q) :: st)) rfl (argsL := As) (rest := st) hlen rfl hdg
  exact ⟨mk, vm₁, _, X₁, X₁.named hnamed, hdg, fun target h => hstep₁ _ fun acts => by rw [doInvoke_state]; exact h⟩
/-- invokestatic -/
theorem inv_S {i : Nat} {As : List Value} (hd : decode (mC M) pc = .ok (.invokestatic i, 3)) (hlink : Cond.methodLink (mY M).cls i (mY N) ∈ zTb) (hstat : Cond.static (mY N) ∈ zTb) (hini : Cond.initialized (mY N).cls ∈ zTb)
    (hcode : Cond.code (mY N) (mC N) (mL N) (mT N) ∈ zTb ∨ Cond.codeWith (mY N) (mC N) (mL N) (mT N) (mH N) ∈ zTb) (hy : (mY N).cls ≠ "java/lang/invoke/MethodHandle" ∧ (mY N).cls ≠ "java/lang/invoke/VarHandle" ∧ (parseMethodDescriptor (mY N).desc).map (fun d => d.parameters.length) = some As.length) :
    zInv G M N pc w As st (As.reverse ++ st) := by
  intro p e s m args below meth c ls locs n1 n2 T E hR X hsz
  have hts := E.2.2.2.2.2.2.2.2.1
  obtain ⟨mk, methM, hnamed, hmethM, hsigM⟩ : ∃ mk meth, s.methodNamed? (mY N) = some mk ∧ s.vm.method? mk = some meth ∧ parseMethodDescriptor (mY N).desc = some meth.sig := by
    rcases hcode with hcode | hcode
    · obtain ⟨mk, hnamed⟩ := Cond.code_named (hts _ hcode)
      obtain ⟨methM, cM, hmethM, -, -, -, -, -, -, hsigM⟩ := Cond.code_spec hnamed (hts _ hcode)
      exact ⟨mk, methM, hnamed, hmethM, hsigM⟩
    · obtain ⟨mk, methM, cM, hnamed, hmethM, -, -, -, -, -, -, hsigM⟩ := Cond.codeWith_spec (hts _ hcode)
      exact ⟨mk, methM, hnamed, hmethM, hsigM⟩
  have hstatic : methM.isStatic = true := Cond.static_spec hnamed hmethM (hts _ hstat)
  obtain ⟨kP, hkP, -⟩ := className_of_methodNamed hnamed
  have hinitP : kP.init = .initialized := Cond.initialized_spec (findClass_of_methodNamed hnamed) hkP (hts _ hini)
  have hdg : decode c.code pc = .ok (.invokestatic i, 3) := by rw [E.2.1]; exact hd
  have hlen : As.length = methM.sig.parameters.length := by
    have h := hy.2.2
    rw [hsigM] at h
    exact (Option.some.inj h).symm
  obtain ⟨vm₁, X₁, hstep₁⟩ := X.invokestatic E.1 E.2.2.2.2.1 (hts _ hlink) hnamed hmethM hstatic hkP hinitP ⟨hy.1, hy.2.1⟩ (g := F0 m pc ls (As.reverse ++ st)) rfl (argsL := As) (rest := st) hlen rfl hdg
  exact ⟨mk, vm₁, _, X₁, X₁.named hnamed, hdg, fun target h => hstep₁ _ fun acts => by rw [doInvoke_state]; exact h⟩
/-- invokestatic of a nest mate's -/
theorem inv_SN {i : Nat} {As : List Value} {host : String} (hd : decode (mC M) pc = .ok (.invokestatic i, 3)) (hlink : Cond.methodLinkNest (mY M).cls i (mY N) host ∈ zTb) (hstat : Cond.static (mY N) ∈ zTb) (hini : Cond.initialized (mY N).cls ∈ zTb)
    (hcode : Cond.code (mY N) (mC N) (mL N) (mT N) ∈ zTb) (hy : (mY N).cls ≠ "java/lang/invoke/MethodHandle" ∧ (mY N).cls ≠ "java/lang/invoke/VarHandle" ∧ (parseMethodDescriptor (mY N).desc).map (fun d => d.parameters.length) = some As.length) :
    zInv G M N pc w As st (As.reverse ++ st) := by
  intro p e s m args below meth c ls locs n1 n2 T E hR X hsz
  have hts := E.2.2.2.2.2.2.2.2.1
  obtain ⟨mk, hnamed⟩ := Cond.code_named (hts _ hcode)
  obtain ⟨methM, cM, hmethM, -, -, -, -, -, -, hsigM⟩ := Cond.code_spec hnamed (hts _ hcode)
  have hstatic : methM.isStatic = true := Cond.static_spec hnamed hmethM (hts _ hstat)
  obtain ⟨kP, hkP, -⟩ := className_of_methodNamed hnamed
  have hinitP : kP.init = .initialized := Cond.initialized_spec (findClass_of_methodNamed hnamed) hkP (hts _ hini)
  have hdg : decode c.code pc = .ok (.invokestatic i, 3) := by rw [E.2.1]; exact hd
  have hlen : As.length = methM.sig.parameters.length := by
    have h := hy.2.2
    rw [hsigM] at h
    exact (Option.some.inj h).symm
  obtain ⟨vm₁, X₁, hstep₁⟩ := X.invokestaticNest E.1 E.2.2.2.2.1 (hts _ hlink) hnamed hmethM hstatic hkP hinitP ⟨hy.1, hy.2.1⟩ (g := F0 m pc ls (As.reverse ++ st)) rfl (argsL := As) (rest := st) hlen rfl hdg
  exact ⟨mk, vm₁, _, X₁, X₁.named hnamed, hdg, fun target h => hstep₁ _ fun acts => by rw [doInvoke_state]; exact h⟩
/-- invokespecial of a constructor -/
theorem inv_I {i q : Nat} {As : List Value} (hd : decode (mC M) pc = .ok (.invokespecial i, 3)) (hn1 : (mY N).name = "<init>") (hret : mT N = none) (hlink : Cond.methodLink (mY M).cls i (mY N) ∈ zTb ∨ ∃ host, Cond.methodLinkNest (mY M).cls i (mY N) host ∈ zTb) (hinst : Cond.instanceMethod (mY N) ∈ zTb)
    (hcode : Cond.code (mY N) (mC N) (mL N) (mT N) ∈ zTb) (hy : (mY N).cls ≠ "java/lang/invoke/MethodHandle" ∧ (mY N).cls ≠ "java/lang/invoke/VarHandle" ∧ (parseMethodDescriptor (mY N).desc).map (fun d => d.parameters.length) = some As.length) :
    zInv G M N pc w (.ref q :: As) st (As.reverse ++ .ref q :: st) := by
  intro p e s m args below meth c ls locs n1 n2 T E hR X hsz
  have hts := E.2.2.2.2.2.2.2.2.1
  have hpl : e.platform.magicAccessors = ({} : Platform).magicAccessors := by rw [X.admits.platform]
  have hdg : decode c.code pc = .ok (.invokespecial i, 3) := by rw [E.2.1]; exact hd
  have hlen : ∀ sig, parseMethodDescriptor (mY N).desc = some sig → As.length = sig.parameters.length := fun sig hs => by
    have h := hy.2.2
    rw [hs] at h
    exact (Option.some.inj h).symm
  rw [hret] at hcode
  rcases hlink with hlink | ⟨host, hlink⟩
  · obtain ⟨mk, methM, cM, kP, vm₁, hnamed, hmethM, hcodeM, -, hlocalsM, -, hkP, -, hW₁, hstep₁⟩ := Steps.initColdArgs (e := e) X.here E.1 X.warmed hpl E.2.2.2.2.1 hn1 ⟨hy.1, hy.2.1⟩ (hts _ hlink) (hts _ hinst) (hts _ hcode) (f := F0 m pc ls (As.reverse ++ .ref q :: st)) rfl hlen rfl hdg
    have X₁ := X.noted hW₁
    exact ⟨mk, vm₁, _, X₁, X₁.named hnamed, hdg, fun target h => hstep₁ _ fun acts => by rw [doInvoke_state]; exact h⟩
  · obtain ⟨mk, methM, cM, kP, vm₁, hnamed, hmethM, hcodeM, -, hlocalsM, -, hkP, -, hW₁, hstep₁⟩ := Steps.initColdArgsNest (e := e) X.here E.1 X.warmed hpl E.2.2.2.2.1 hn1 ⟨hy.1, hy.2.1⟩ (hts _ hlink) (hts _ hinst) (hts _ hcode) (f := F0 m pc ls (As.reverse ++ .ref q :: st)) rfl hlen rfl hdg
    have X₁ := X.noted hW₁
    exact ⟨mk, vm₁, _, X₁, X₁.named hnamed, hdg, fun target h => hstep₁ _ fun acts => by rw [doInvoke_state]; exact h⟩
end C
