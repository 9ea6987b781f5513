/-! A world as a list of cells by their places; machine heap and world side by side; the judgement zV: from here the method comes to its end with o and the world w1. -/
abbrev zF : Type := Int32 ⊕ Option Nat
abbrev zC : Type := List Int32 ⊕ (List Int64 ⊕ (List (Option Nat) ⊕ (Nat × List zF)))
abbrev zW : Type := List zC
/-- what all methods share: launch; heap at the start; the classes' numbers; array classes int[], long[], Entry[]; the place of LENGTH_ORDER's array; the place of the script, and its ints -/
abbrev zG : Type := Launch × Heap × va_G × ClassId × ClassId × ClassId × Nat × Nat × List Int32
abbrev gL (G : zG) : Launch := G.1
abbrev gH (G : zG) : Heap := G.2.1
abbrev gD (G : zG) : va_G := G.2.2.1
abbrev gI (G : zG) : ClassId := G.2.2.2.1
abbrev gJ (G : zG) : ClassId := G.2.2.2.2.1
abbrev gE (G : zG) : ClassId := G.2.2.2.2.2.1
abbrev gO (G : zG) : Nat := G.2.2.2.2.2.2.1
abbrev gB (G : zG) : Nat := G.2.2.2.2.2.2.2.1
abbrev gS (G : zG) : List Int32 := G.2.2.2.2.2.2.2.2
def z0 (G : zG) : Nat := (gH G).size
def rfv (z : Nat) : Option Nat → Value
  | none => .null
  | some k => .ref (z + k)
def fdv (z : Nat) : zF → Value
  | .inl x => .int x
  | .inr r => rfv z r
def img (G : zG) : zC → va_E
  | .inl xs => .inl (gI G, xs.length, .inl (fun j => xs.getD j 0))
  | .inr (.inl xs) => .inl (gJ G, xs.length, .inr (.inl (fun j => xs.getD j 0)))
  | .inr (.inr (.inl rs)) => .inl (gE G, rs.length, .inr (.inr (.inr (.inr (fun j => (rs.getD j none).map (fun k => z0 G + k))))))
  | .inr (.inr (.inr (ci, fs))) => .inr (ci, fs.map (fdv (z0 G)))
def wsO (G : zG) (w : zW) : va_W := w.mapIdx (fun k c => (z0 G + k, img G c))
abbrev zA (G : zG) : Nat → Prop := fun q => z0 G ≤ q
abbrev zTy (G : zG) : List (ClassId × FieldType) := [(gI G, .int), (gJ G, .long), (gE G, .object "ZipArray$Entry")]
def zR (G : zG) (w : zW) (H : Heap) (locs : List Loc) : Prop := va_P (gD G) zCl (wsO G w) H ∧ va_S (zA G) (gH G) H locs ∧ H.size = z0 G + w.length
theorem wsO_at {G : zG} {w : zW} {k : Nat} {c : zC} (h : w[k]? = some c) : (wsO G w)[k]? = some (z0 G + k, img G c) := by
  simp [wsO, List.getElem?_mapIdx, h]
theorem wsO_of {G : zG} {w : zW} {k : Nat} {x : Nat × va_E} (h : (wsO G w)[k]? = some x) : ∃ c, w[k]? = some c ∧ x = (z0 G + k, img G c) := by
  simp only [wsO, List.getElem?_mapIdx] at h
  cases hc : w[k]? with
  | none => simp [hc] at h
  | some c => exact ⟨c, rfl, by simpa [hc] using h.symm⟩
theorem wsO_D {G : zG} {w : zW} : va_D (zA G) (wsO G w) := by
  refine ⟨fun i j p q hi hj hpq => ?_, fun k q hk => ?_⟩
  · obtain ⟨c, -, rfl⟩ := wsO_of hi
    obtain ⟨d, -, rfl⟩ := wsO_of hj
    simp only at hpq
    omega
  · obtain ⟨c, -, rfl⟩ := wsO_of hk
    exact Nat.le_add_right _ _
theorem wsO_set {G : zG} {w : zW} {k : Nat} {c : zC} (e : va_E) (h : e = img G c) : wsO G (w.set k c) = (wsO G w).set k (z0 G + k, e) := by
  subst h
  apply List.ext_getElem?
  intro i
  by_cases hi : k = i
  · subst hi
    simp only [wsO, List.getElem?_mapIdx, List.getElem?_set]
    by_cases hk : k < w.length <;> simp [hk]
  · simp only [wsO, List.getElem?_mapIdx, List.getElem?_set, if_neg hi]
theorem wsO_app {G : zG} {w : zW} {c : zC} : wsO G (w ++ [c]) = wsO G w ++ [(z0 G + w.length, img G c)] := by
  simp [wsO, List.mapIdx_append]
theorem wsO_len {G : zG} {w : zW} : (wsO G w).length = w.length := by simp [wsO]
/-- the six classes of what is thrown; none can be cast to another -/
def zEx : List String := [R_IAE, R_ISE, R_IOOBE, R_AE, R_UOE, R_NSEE]
def zNC : List Cond := zEx.flatMap fun a => (zEx.filter (fun b => !(b == a))).map fun b => .not (.castable a b)
/-- the statics of Throwable that a constructor reads: there, and each a reference or null -/
def zSt : List Cond := [.laysStatic "java/lang/Throwable" "UNASSIGNED_STACK" "[Ljava/lang/StackTraceElement;", .laysStatic "java/lang/Throwable" "SUPPRESSED_SENTINEL" "Ljava/util/List;", .isRef (.static "java/lang/Throwable" "UNASSIGNED_STACK" "[Ljava/lang/StackTraceElement;"), .isRef (.static "java/lang/Throwable" "SUPPRESSED_SENTINEL" "Ljava/util/List;")]
/-- what the tables say, as a method finds it at its entry -/
def zK (G : zG) (s : State) : Prop :=
  va_K (gD G) zCl (zTy G) s ∧ va_Z "ZipArray$Unpacker" "LENGTH_ORDER" "[I" (.ref (gO G)) (zA G) s (gH G) ∧
  va_T .int (gO G) 19 (fun j => .int (([16, 17, 18, 0, 8, 7, 9, 6, 10, 5, 11, 4, 12, 3, 13, 2, 14, 1, 15] : List Int32).getD j 0)) (zA G) s (gH G) ∧
  (∀ w ∈ zNC, w.before #[] s = true) ∧ (∀ e : Env, (gL G).admits e → e.platform.stackTraces = false) ∧
  va_X (gB G) (gS G).length (fun j => (gS G).getD j 0) s (gH G) ∧ gB G < z0 G
theorem zNC_cast : ∀ w ∈ zNC, w.castAtom = true := by
  intro w hw
  simp only [zNC, List.mem_flatMap, List.mem_map] at hw
  obtain ⟨a, -, b, -, rfl⟩ := hw
  rfl
theorem zK_mv {G : zG} {s U : State} (hW : s.WarmedH U.vm) (h : zK G s) : zK G U :=
  ⟨va_K.moved hW.alike h.1, va_Z.moved hW.alike h.2.1, va_T.moved hW.alike h.2.2.1, fun w hw => by
    have h1 := Cond.castAtom_setVm (args := #[]) hW.alike w (zNC_cast w hw) (h.2.2.2.1 w hw)
    simp only [zNC, List.mem_flatMap, List.mem_map] at hw
    obtain ⟨a, -, b, -, rfl⟩ := hw
    exact h1, h.2.2.2.2.1, va_X.moved hW.alike h.2.2.2.2.2.1, h.2.2.2.2.2.2⟩
/-- what the heap says, as a method finds it at its entry: below the start it is as it was; no cell of the world holds statics; Throwable's statics -/
def zN (G : zG) (s : State) : Prop :=
  va_S (zA G) (gH G) s.heap [] ∧ (∀ (q : Nat) (cell : Cell), z0 G ≤ q → s.heap[q]? = some cell → cell.vm.isStatics = false) ∧ ∀ w ∈ zSt, w.before #[] s = true
/-- a method: name, code, locals, what it returns, its handlers, its room -/
abbrev zM : Type := MethodName × ByteArray × Nat × Option FieldType × List (Nat × Nat × Nat × Nat) × Room
abbrev mY (M : zM) : MethodName := M.1
abbrev mC (M : zM) : ByteArray := M.2.1
abbrev mL (M : zM) : Nat := M.2.2.1
abbrev mT (M : zM) : Option FieldType := M.2.2.2.1
abbrev mH (M : zM) : List (Nat × Nat × Nat × Nat) := M.2.2.2.2.1
abbrev mR (M : zM) : Room := M.2.2.2.2.2
def zE (G : zG) (M : zM) (p : Program) (e : Env) (s : State) (m : MethodId) (args : Array Value) (meth : Method) (c : Code) : Prop :=
  p.tables.exec = Jvm.exec ∧ c.code = mC M ∧ meth.sig.returnType = mT M ∧ c.maxLocals = mL M ∧ s.vm.findClass (mY M).cls = some m.cls ∧ meth.locks = false ∧ meth.name = (mY M).name ∧
  c.exceptionTable.toList = tableOf (mH M) ∧ (∀ w ∈ zTb, w.before args s = true) ∧ zK G s ∧ zN G s
def zQ (G : zG) (below : List Frame) (s : State) (R : Room) (o : Outcome) (w1 : zW) : State → Prop := fun t =>
  ∃ L : List Loc, t.status = .running ∧ Ended t below o ∧ zR G w1 t.heap L ∧ s.WarmedH t.vm ∧ s.sameButNew ({ t with vm := s.vm } : State) L R.cells R.slots
def zV (G : zG) (M : zM) (pc : Nat) (lv : List (Nat × Value)) (st : List Value) (w : zW) (n1 n2 : Nat) (o : Outcome) (w1 : zW) : Prop :=
  ∀ (p : Program) (e : Env) (s : State) (m : MethodId) (args : Array Value) (below : List Frame) (meth : Method) (c : Code) (H : Heap) (ls : Array Slot) (locs : List Loc),
    zE G M p e s m args meth c → lv_has ls (mL M) lv → zR G w H locs → W p (gL G) e (mR M) s m args below meth c H locs n1 n2 (zQ G below s (mR M) o w1) (F0 m pc ls st)
/-- a method's contract: from the arguments a and the world w it comes to o and w1 -/
def zCT (G : zG) (M : zM) (a : List Value) (w : zW) (o : Outcome) (w1 : zW) : Prop :=
  MetFree (gL G) (mY M) (headSpec zTb (mR M)) (fun args s => args = a.toArray ∧ zK G s ∧ zN G s ∧ ∃ L, zR G w s.heap L) (fun _ _ _ _ _ => True)
    (fun _ s oc t => oc = o ∧ ∃ L, zR G w1 t.heap L ∧ s.WarmedH t.vm ∧ s.sameButNew ({ t with vm := s.vm } : State) L (mR M).cells (mR M).slots)

/-- the contract out of the walk from the entry; the code's word is one of the tables' -/
theorem zCT.ofV {G : zG} {M : zM} {a : List Value} {w w1 : zW} {o : Outcome} (hp : plainName (mY M).cls = true)
    (hc : (Cond.code (mY M) (mC M) (mL M) (mT M) ∈ zTb ∧ mH M = []) ∨ Cond.codeWith (mY M) (mC M) (mL M) (mT M) (mH M) ∈ zTb) (hl : (lg_sl a).length ≤ mL M)
    (h : zV G M 0 (lv_args 0 a) [] w 0 0 o w1) : zCT G M a w o w1 := by
  have spec : ∀ (args : Array Value) (s : State) (m : MethodId), (headSpec zTb (mR M)).pre.before args s = true → s.methodNamed? (mY M) = some m → ∃ meth c, s.vm.method? m = some meth ∧ meth.code = some c ∧ c.code = mC M ∧ c.maxLocals = mL M ∧ meth.sig.returnType = mT M ∧ meth.locks = false ∧ c.exceptionTable.toList = tableOf (mH M) := by
    intro args s m hpre hn
    have hts := atoms_spec (ws := zTb) hpre
    rcases hc with ⟨hc, hh⟩ | hc
    · obtain ⟨meth, c, h1, h2, h3, h4, h5, h6, h7, -⟩ := Cond.code_spec hn (hts _ hc)
      exact ⟨meth, c, h1, h2, h3, h4, h5, h6, by rw [hh]; simpa [tableOf] using h7⟩
    · obtain ⟨m', meth, c, hn', h1, h2, h3, h4, h7, h5, h6, -⟩ := Cond.codeWith_spec (hts _ hc)
      cases hn.symm.trans hn'
      exact ⟨meth, c, h1, h2, h3, h4, h5, h6, by rw [← h7]; exact (table_eq _).symm⟩
  refine MetFree.of_bodyS (code := mC M) (maxLocals := mL M) (ret := mT M) hp ?_ ?_
  · intro args s m hpre hn
    obtain ⟨meth, c, h1, h2, h3, h4, h5, h6, -⟩ := spec args s m hpre hn
    exact ⟨meth, c, h1, h2, h3, h4, h5, h6⟩
  · intro p e s m args below meth c s₁ B hml hP _
    obtain ⟨rfl, hK, hN, L, hR⟩ := hP
    have hh0 : s₁.heap = s.heap := by rw [B.state]; rfl
    obtain ⟨meth', c', h1, h2, -, -, -, -, h7⟩ := spec _ s m B.pre B.named
    cases B.method.symm.trans h1
    cases (Stand.of_body B).code.symm.trans h2
    have hE : zE G M p e s m a.toArray meth c := ⟨B.exec, B.bytes, B.returns, hml, findClass_of_methodNamed B.named, B.notSynchronized, (name_of_methodNamed B.named B.method).1, h7, atoms_spec (ws := zTb) B.pre, hK, hN⟩
    have hl' := lv_entry a (n := mL M) hl
    obtain ⟨t, a1, L', b1, b2, b3, b4, b5⟩ := h p e s m a.toArray below meth c s.heap _ [] hE hl' ⟨hR.1, hN.1, hR.2.2⟩ s₁ hh0 (Stand.of_body B)
    exact ⟨t, o, by rw [lg_entry_eq]; exact a1, b1, b2, rfl, L', b3, b4, b5⟩
