/-! Calls: the callee's contract at a call site; its words, its world. -/
theorem ls_mv {z : Nat} {s U : State} {C n d : String} (hal : s.vm.Alike U.vm) (hst : ∀ (q : Nat) (cell : Cell), z ≤ q → s.heap[q]? = some cell → cell.vm.isStatics = false) (hag : ∀ q, q < z → U.heap[q]? = s.heap[q]?)
    (h : (Cond.laysStatic C n d).before #[] s = true) : (Cond.laysStatic C n d).before #[] U = true := by
  obtain ⟨c, k, i, f, a, cell, hc, hi, hs, ha, hcell, hss, hcls, hlt, hty⟩ := Cond.laysStatic_spec h
  obtain ⟨k', hi', hek⟩ := State.fieldFound?_setVm hal hi
  have hlz : a < z := Nat.not_le.mp fun hq => by rw [hst a cell hq hcell] at hss; cases hss
  exact Cond.laysStatic_of (s := U) (by rw [hal.findClass]; exact hc) hi' hs (by rw [hek]; exact ha) (by rw [hag a hlz]; exact hcell) hss hcls hlt (by rw [hek]; exact hty)
theorem ir_mv {z : Nat} {s U : State} {C n d : String} (hal : s.vm.Alike U.vm) (hst : ∀ (q : Nat) (cell : Cell), z ≤ q → s.heap[q]? = some cell → cell.vm.isStatics = false) (hag : ∀ q, q < z → U.heap[q]? = s.heap[q]?)
    (h : (Cond.laysStatic C n d).before #[] s = true) (hr : (Cond.isRef (.static C n d)).before #[] s = true) : (Cond.isRef (.static C n d)).before #[] U = true := by
  obtain ⟨c, k, i, f, a, cell, hc, hi, hs, ha, hcell, hss, hcls, hlt, hty⟩ := Cond.laysStatic_spec h
  obtain ⟨k', hi', hek⟩ := State.fieldFound?_setVm hal hi
  have hlz : a < z := Nat.not_le.mp fun hq => by rw [hst a cell hq hcell] at hss; cases hss
  obtain ⟨u, hu⟩ := Cond.staticRefV hi hs ha hcell hss hr
  have hi2 : U.fieldFound? C n d = some (c, k', i, f) := hi'
  have he : (Term.static C n d).eval #[] U none [] U = some u.v := by
    simp [Term.eval, State.fieldNamed?, hi2, hs, show k'.statics = some a by rw [hek]; exact ha, show U.heap[a]? = some cell by rw [hag a hlz]; exact hcell, hss, hu]
  obtain ⟨v, hv⟩ := u
  simp only [Cond.before, Cond.holds, Cond.value]
  rw [he]
  cases v <;> simp [Value.isRef] at hv <;> rfl
theorem zR_nostat {G : zG} {w : zW} {H : Heap} {locs : List Loc} (h : zR G w H locs) (q : Nat) (cell : Cell) (hq : z0 G ≤ q) (hc : H[q]? = some cell) : cell.vm.isStatics = false := by
  have hlt : q < H.size := (Array.getElem?_eq_some_iff.mp hc).1
  rw [h.2.2] at hlt
  obtain ⟨k, rfl⟩ : ∃ k, q = z0 G + k := ⟨q - z0 G, by omega⟩
  have hk : k < w.length := by omega
  have hp := h.1 k _ (wsO_at (G := G) (List.getElem?_eq_getElem hk))
  generalize w[k] = x at hp
  obtain xs | xs | xs | ⟨ci, fs⟩ := x
  · have h2 : H[z0 G + k]? = some (vp_cell _ _) := hp
    rw [hc] at h2
    rw [Option.some.inj h2]; rfl
  · have h2 : H[z0 G + k]? = some (vp_cell _ _) := hp
    rw [hc] at h2
    rw [Option.some.inj h2]; rfl
  · have h2 : H[z0 G + k]? = some (vp_cell _ _) := hp
    rw [hc] at h2
    rw [Option.some.inj h2]; rfl
  · obtain ⟨r, -, cell', q1, -, q3, -⟩ := hp
    have q1 : H[z0 G + k]? = some cell' := q1
    rw [hc] at q1
    rw [Option.some.inj q1, q3]; rfl
theorem zN_mv {G : zG} {s U : State} {w : zW} {locs : List Loc} (hW : s.WarmedH U.vm) (hN : zN G s) (hR : zR G w U.heap locs) : zN G U := by
  obtain ⟨h1, h2, h3⟩ := hN
  have hag : ∀ q, q < z0 G → U.heap[q]? = s.heap[q]? := fun q hq => (hR.2.1.2.1 q hq (Nat.not_le.mpr hq)).trans (h1.2.1 q hq (Nat.not_le.mpr hq)).symm
  refine ⟨⟨hR.2.1.1, hR.2.1.2.1, fun _ h => absurd h (List.not_mem_nil)⟩, zR_nostat hR, ?_⟩
  intro w hw
  simp only [zSt, List.mem_cons, List.not_mem_nil, or_false] at hw
  have a1 := h3 (.laysStatic "java/lang/Throwable" "UNASSIGNED_STACK" "[Ljava/lang/StackTraceElement;") (by simp [zSt])
  have a2 := h3 (.laysStatic "java/lang/Throwable" "SUPPRESSED_SENTINEL" "Ljava/util/List;") (by simp [zSt])
  rcases hw with rfl | rfl | rfl | rfl
  · exact ls_mv hW.alike h2 hag a1
  · exact ls_mv hW.alike h2 hag a2
  · exact ir_mv hW.alike h2 hag a1 (h3 _ (by simp [zSt]))
  · exact ir_mv hW.alike h2 hag a2 (h3 _ (by simp [zSt]))
section C
variable {G : zG} {M N : zM} {p : Program} {e : Env} {s : State} {m : MethodId} {args : Array Value} {below : List Frame} {meth : Method} {c : Code} {T : State} {locs : List Loc} {n1 n2 : Nat}
/-- behind the invoking instruction's own step: the callee runs to its end -/
theorem zcall {a : List Value} {w w2 : zW} {o : Outcome} (X : Stand p (gL G) e (mR M) s m args below meth c T locs n1 n2) (E : zE G M p e s m args meth c) (hR : zR G w T.heap locs) {g : JFrame} (hg : g.method = m) (hsize : g.locals.size = c.maxLocals) {ig : Instr} (hdg : decode c.code g.pc = .ok (ig, 3)) {mk : MethodId} (hn : T.methodNamed? (mY N) = some mk)
    (hcode : Cond.code (mY N) (mC N) (mL N) (mT N) ∈ zTb ∨ Cond.codeWith (mY N) (mC N) (mL N) (mT N) (mH N) ∈ zTb) (hini : Cond.initialized (mY N).cls ∈ zTb) (h1 : (mR N).frames + 1 ≤ (mR M).frames) (h2 : 2 * g.monitorRoom + (g.stack.map fun v => v.category).sum + (mL N + 11) + (mR N).locals ≤ (mR M).locals) (h3 : n1 + (mR N).cells ≤ (mR M).cells) (h4 : n2 + (mR N).slots ≤ (mR M).slots)
    (hC : zCT G N a w o w2) :
    ∃ (t : State) (L : List Loc), Steps p.tables e below (doInvoke e (T.setTop g) [] mk a.toArray).1 t ∧ Ended t (.java g :: below) o ∧ zR G w2 t.heap L ∧ (T.calling g mk a.toArray).WarmedH t.vm ∧ (T.calling g mk a.toArray).sameButNew ({ t with vm := (T.calling g mk a.toArray).vm } : State) L (mR N).cells (mR N).slots := by
  have hWs : s.WarmedH T.vm := X.warmed
  have hts : ∀ x ∈ zTb, x.before a.toArray T = true := tbl_mv hWs E.2.2.2.2.2.2.2.2.1
  obtain ⟨methY, cY, hmY, hcY, hlY⟩ : ∃ meth c, T.vm.method? mk = some meth ∧ meth.code = some c ∧ c.maxLocals = mL N := by
    rcases hcode with hcode | hcode
    · obtain ⟨methY, cY, hmY, hcY, -, hlY, -⟩ := Cond.code_spec hn (hts _ hcode)
      exact ⟨methY, cY, hmY, hcY, hlY⟩
    · obtain ⟨m', methY, cY, hn', hmY, hcY, -, hlY, -⟩ := Cond.codeWith_spec (hts _ hcode)
      cases hn.symm.trans hn'
      exact ⟨methY, cY, hmY, hcY, hlY⟩
  obtain ⟨kY, hkY, -⟩ := className_of_methodNamed hn
  have hinitY : kY.init = .initialized := Cond.initialized_spec (findClass_of_methodNamed hn) hkY (hts _ hini)
  have h : At T g.method c below := by rw [hg]; exact X.here
  have happ : (headSpec zTb (mR N)).appliesLoose (mY N) e.platform (T.calling g mk a.toArray) = true :=
    Spec.appliesLoose_calling (g := g) h hdg hn hkY hinitY (X.room_calling (g := g) (R' := mR N) hsize hmY hcY h1 (by rw [hlY]; omega) h3 h4) (atoms_intro hts)
  obtain ⟨mid, hmid⟩ := h.above
  have hfr : (T.setTop g).frames = (.java g :: mid) ++ below := by rw [State.frames_setTop' g h.top, hmid]; rfl
  have hWc : s.WarmedH (T.calling g mk a.toArray).vm := hWs
  have hRc : zR G w (T.calling g mk a.toArray).heap locs := hR
  obtain ⟨oc, t, hsteps, -, hend, ho, L, r1, r2, r3⟩ := Steps.callFree hC p X.admits X.cas X.clock (acts := []) hfr happ ⟨rfl, zK_mv hWc E.2.2.2.2.2.2.2.2.2.1, zN_mv hWc E.2.2.2.2.2.2.2.2.2.2 hRc, locs, hRc⟩ trivial
  rw [State.frames_setTop' g h.top, X.tail] at hend
  subst ho
  exact ⟨t, L, hsteps, hend, r1, r2, r3⟩
end C
