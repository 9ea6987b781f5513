/-! THE CLAIM OUT OF ONE WALK OF THE LAW'S BODY. Your part is whole_start (and what it stands on); all else here is the same for every law, but numbers. -/
def R_law : String := "ZipArrayLaw"
def lw_P (b : Addr) (xs : List Int32) (args : Array Value) (s : State) : Prop := args = #[.ref b] ∧ s.IntsAt b xs ∧ xs.length ≤ 2048 ∧ (Jvm.Cond.and given_1 narrow_1).before args s = true
def lw_Q (_ : Array Value) (s : State) (o : Outcome) (t : State) : Prop := o = .returned (some (.int 1)) ∧ Framed s o t [] 601024 7293034
def lw_Z (below : List Frame) (a : Array Value) (s : State) : State → Prop := fun t => ∃ o, t.status = .running ∧ Ended t below o ∧ lw_Q a s o t
/-- the law's own end, with 1 on the stack, nothing written that was there before, its room as the claim has it -/
theorem lw_ret {p : Program} {l : Launch} {e : Env} {s : State} {m : MethodId} {below : List Frame} {meth : Method} {c : Code} {b : Nat} (hx : p.tables.exec = Jvm.exec) (hb : c.code = code) (hr : meth.sig.returnType = ret) (hlocks : meth.locks = false) {pc : Nat} {H : Heap} {ls : Array Slot} (hdg : decode code pc = .ok (.ireturn, 1)) : W p l e room_1 s m #[Value.ref b] below meth c H [] 601024 7293034 (lw_Z below #[Value.ref b] s) (F0 m pc ls [.int 1]) := by
  intro T hT X
  obtain ⟨fs, hret, hrun, hended, hW, hframe⟩ := X.leave (v := some (.int 1)) (hlocks := hlocks) (fun h => by rw [hr] at h; cases h)
  have hmeth' : T.vm.method? m = some meth := X.method'
  refine ⟨T.setFrames fs, ?_, .returned (some (.int 1)), hrun, hended, rfl, ⟨_, rfl⟩, hW, hframe⟩
  jvm_step X.here [X.here.top, hx, hb, hdg, hmeth', hr, ret, narrow_b1]
  (try refine ⟨rfl, ?_⟩); (try refine ⟨rfl, ?_⟩)
  first | (intro acts; rw [hret _ acts rfl rfl rfl]) | rw [hret _ _ rfl rfl rfl]
  exact Steps.refl _
/-- what holds at the law's entry: the machine, the code, the tables' words (any of lw_tbl by 'hts w (by decide +kernel)'), the script of L ints xs at the cell b, what the Statement gives of the start (any of its parts by flat_of_before) -/
def lw_At (p : Program) (s : State) (m : MethodId) (meth : Method) (c : Code) (b L : Nat) (xs : Nat → Int32) : Prop :=
  p.tables.exec = Jvm.exec ∧ c.code = code ∧ meth.sig.returnType = ret ∧ c.maxLocals = 7 ∧ s.vm.findClass R_law = some m.cls ∧ (∀ w ∈ lw_tbl, w.before #[Value.ref b] s = true) ∧ va_X b L xs s s.heap ∧ b < s.heap.size ∧ meth.locks = false ∧ (Jvm.Cond.and given_1 narrow_1).before #[Value.ref b] s = true

/-- the classes' numbers, out of the words -/
theorem zk_all {args : Array Value} {s : State} (hts : ∀ w ∈ zTb, w.before args s = true) : ∀ q ∈ zCl, ∃ (cC : ClassId) (iS : Nat → Nat), u_Kn s q.1 q.2.1 q.2.2 cC iS := by
  have none0 : ∀ (C : String), ∀ w ∈ u_ws C T_none 0, w ∈ zTb := fun C w hw => absurd hw (by simp [u_ws])
  intro q hq
  simp only [zCl, List.mem_cons, List.not_mem_nil, or_false] at hq
  rcases hq with rfl | rfl | rfl | rfl | rfl | rfl | rfl | rfl | rfl | rfl | rfl | rfl | rfl | rfl | rfl | rfl
  · exact u_known hts in_Row (hts (Cond.instantiable R_Row 3) (tb_at 31 (by decide +kernel) rfl))
  · exact u_known hts in_Entry (hts (Cond.instantiable R_Entry 9) (tb_at 163 (by decide +kernel) rfl))
  · exact u_known hts in_Extras (hts (Cond.instantiable R_Extras 5) (tb_at 138 (by decide +kernel) rfl))
  · exact u_known hts in_Packer (hts (Cond.instantiable R_Packer 5) (tb_at 59 (by decide +kernel) rfl))
  · exact u_known hts in_Code (hts (Cond.instantiable R_Code 3) (tb_at 87 (by decide +kernel) rfl))
  · exact u_known hts in_Unpacker (hts (Cond.instantiable R_Unpacker 8) (tb_at 81 (by decide +kernel) rfl))
  · exact u_known hts in_Archive (hts (Cond.instantiable R_Archive 7) (tb_at 132 (by decide +kernel) rfl))
  · exact u_known hts in_Writer (hts (Cond.instantiable R_Writer 2) (tb_at 239 (by decide +kernel) rfl))
  · exact u_known hts in_Zip (hts (Cond.instantiable R_Zip 9) (tb_at 23 (by decide +kernel) rfl))
  · exact u_known hts in_Model (hts (Cond.instantiable R_Model 33) (tb_at 877 (by decide +kernel) rfl))
  · exact u_known hts (none0 R_IAE) (hts (Cond.instantiable R_IAE 6) (tb_at 542 (by decide +kernel) rfl))
  · exact u_known hts (none0 R_ISE) (hts (Cond.instantiable R_ISE 6) (tb_at 609 (by decide +kernel) rfl))
  · exact u_known hts (none0 R_IOOBE) (hts (Cond.instantiable R_IOOBE 6) (tb_at 648 (by decide +kernel) rfl))
  · exact u_known hts (none0 R_AE) (hts (Cond.instantiable R_AE 6) (tb_at 716 (by decide +kernel) rfl))
  · exact u_known hts (none0 R_UOE) (hts (Cond.instantiable R_UOE 6) (tb_at 743 (by decide +kernel) rfl))
  · exact u_known hts (none0 R_NSEE) (hts (Cond.instantiable R_NSEE 6) (tb_at 813 (by decide +kernel) rfl))
theorem zk_D {args : Array Value} {s : State} (hts : ∀ w ∈ zTb, w.before args s = true) : ∃ D : va_G, ∀ (c : Nat) (q : vw_C), zCl[c]? = some q → u_Kn s q.1 q.2.1 q.2.2 (D.1 c) (D.2 c) := by
  have h : ∀ c : Nat, ∃ (cC : ClassId) (iS : Nat → Nat), ∀ q : vw_C, zCl[c]? = some q → u_Kn s q.1 q.2.1 q.2.2 cC iS := by
    intro c
    cases hc : zCl[c]? with
    | none => exact ⟨0, fun _ => 0, fun q hq => by cases hq⟩
    | some r =>
      obtain ⟨cC, iS, hk⟩ := zk_all hts r (List.mem_of_getElem? hc)
      exact ⟨cC, iS, fun q hq => by cases hq; exact hk⟩
  exact ⟨(fun c => Classical.choose (h c), fun c => Classical.choose (Classical.choose_spec (h c))), fun c q hq => Classical.choose_spec (Classical.choose_spec (h c)) q hq⟩
theorem zk_arr {args : Array Value} {s : State} (hts : ∀ w ∈ zTb, w.before args s = true) : ∃ cI cJ cE : ClassId, ∀ (k : Nat) (q : ClassId × FieldType), ([(cI, .int), (cJ, .long), (cE, .object "ZipArray$Entry")] : List (ClassId × FieldType))[k]? = some q → ArrOfT s q.1 q.2 ∧ va_RA s q.1 q.2 := by
  obtain ⟨cI, kI, mI, a1, a2, a3⟩ := Cond.arrayClass_spec (hts (Cond.arrayClass .int) (tb_at 57 (by decide +kernel) rfl))
  obtain ⟨cJ, kJ, mJ, b1, b2, b3⟩ := Cond.arrayClass_spec (hts (Cond.arrayClass .long) (tb_at 1329 (by decide +kernel) rfl))
  obtain ⟨mE, cE, kE, d1, -, d2, d3, d4⟩ := Cond.arrayOver_spec (hts (Cond.arrayOver (.object "ZipArray$Entry")) (tb_at 162 (by decide +kernel) rfl))
  refine ⟨cI, cJ, cE, fun k q hq => ?_⟩
  match k, hq with
  | 0, hq => cases hq; exact ⟨fun n z => ⟨fun k h => (by cases h), kI, a2, mI, a3⟩, a1⟩
  | 1, hq => cases hq; exact ⟨fun n z => ⟨fun k h => (by cases h), kJ, b2, mJ, b3⟩, b1⟩
  | 2, hq => cases hq; exact ⟨fun n z => ⟨fun k h => (by cases h), kE, d2, mE, d3⟩, kE, mE, d2, d3, d1, d4⟩

def zTm : Term := .static "ZipArray$Unpacker" "LENGTH_ORDER" "[I"
theorem zk_ord {args : Array Value} {s : State} {A : Nat → Prop} (hl : (Cond.laysStatic "ZipArray$Unpacker" "LENGTH_ORDER" "[I").before args s = true) (hini : (Cond.initialized "ZipArray$Unpacker").before args s = true) (hs : ∀ c ∈ flatC (Jvm.Cond.and given_1 narrow_1), c.before args s = true) (hA : ∀ a : Nat, a < s.heap.size → ¬ A a) :
    ∃ t : Nat, va_Z "ZipArray$Unpacker" "LENGTH_ORDER" "[I" (.ref t) A s s.heap ∧ va_T .int t 19 (fun j => .int (([16, 17, 18, 0, 8, 7, 9, 6, 10, 5, 11, 4, 12, 3, 13, 2, 14, 1, 15] : List Int32).getD j 0)) A s s.heap := by
  obtain ⟨t, h1, h2⟩ := va_Tof (tm := zTm) (ty := .int) (N := 19) (f := fun j => .int (([16, 17, 18, 0, 8, 7, 9, 6, 10, 5, 11, 4, 12, 3, 13, 2, 14, 1, 15] : List Int32).getD j 0)) (A := A) (by decide) (hs (Cond.arrayOf zTm .int) (by decide +kernel)) (va_eqt (hs (Cond.eq (.length zTm) (.int 19)) (by decide +kernel))) (fun j hj => by
    match j, hj with
    | 0, _ => exact va_eqt (hs (Cond.eq (.elem zTm (.int 0)) (.int 16)) (by decide +kernel))
    | 1, _ => exact va_eqt (hs (Cond.eq (.elem zTm (.int 1)) (.int 17)) (by decide +kernel))
    | 2, _ => exact va_eqt (hs (Cond.eq (.elem zTm (.int 2)) (.int 18)) (by decide +kernel))
    | 3, _ => exact va_eqt (hs (Cond.eq (.elem zTm (.int 3)) (.int 0)) (by decide +kernel))
    | 4, _ => exact va_eqt (hs (Cond.eq (.elem zTm (.int 4)) (.int 8)) (by decide +kernel))
    | 5, _ => exact va_eqt (hs (Cond.eq (.elem zTm (.int 5)) (.int 7)) (by decide +kernel))
    | 6, _ => exact va_eqt (hs (Cond.eq (.elem zTm (.int 6)) (.int 9)) (by decide +kernel))
    | 7, _ => exact va_eqt (hs (Cond.eq (.elem zTm (.int 7)) (.int 6)) (by decide +kernel))
    | 8, _ => exact va_eqt (hs (Cond.eq (.elem zTm (.int 8)) (.int 10)) (by decide +kernel))
    | 9, _ => exact va_eqt (hs (Cond.eq (.elem zTm (.int 9)) (.int 5)) (by decide +kernel))
    | 10, _ => exact va_eqt (hs (Cond.eq (.elem zTm (.int 10)) (.int 11)) (by decide +kernel))
    | 11, _ => exact va_eqt (hs (Cond.eq (.elem zTm (.int 11)) (.int 4)) (by decide +kernel))
    | 12, _ => exact va_eqt (hs (Cond.eq (.elem zTm (.int 12)) (.int 12)) (by decide +kernel))
    | 13, _ => exact va_eqt (hs (Cond.eq (.elem zTm (.int 13)) (.int 3)) (by decide +kernel))
    | 14, _ => exact va_eqt (hs (Cond.eq (.elem zTm (.int 14)) (.int 13)) (by decide +kernel))
    | 15, _ => exact va_eqt (hs (Cond.eq (.elem zTm (.int 15)) (.int 2)) (by decide +kernel))
    | 16, _ => exact va_eqt (hs (Cond.eq (.elem zTm (.int 16)) (.int 14)) (by decide +kernel))
    | 17, _ => exact va_eqt (hs (Cond.eq (.elem zTm (.int 17)) (.int 1)) (by decide +kernel))
    | 18, _ => exact va_eqt (hs (Cond.eq (.elem zTm (.int 18)) (.int 15)) (by decide +kernel))
    | j + 19, hj => exact absurd hj (by omega)) hA
  exact ⟨t, va_Zref hl hini h1 hA, h2⟩
theorem zk_nc : ∀ w ∈ zNC, w ∈ flatC (Jvm.Cond.and given_1 narrow_1) := by decide +kernel
/-- whole_start out of the law's walk as a function: lp says that it comes to 1 on every script of at most 2048 ints -/
theorem whole_of (lp : ∀ sc : List Int32, sc.length ≤ 2048 → ∃ (F : Nat) (w1 : zW), f_Law_law F sc [] = some (1, w1)) {p : Program} {e : Env} {s : State} {m : MethodId} {below : List Frame} {meth : Method} {c : Code} (l : Launch) (hfl : l.flags = flags0) {b L : Nat} {xs : Nat → Int32} (hL : L ≤ 2048) (C0 : lw_At p s m meth c b L xs) (hnm : meth.name = "law") (htab : c.exceptionTable.toList = []) : W p l e room_1 s m #[Value.ref b] below meth c s.heap [] 0 0 (lw_Z below #[Value.ref b] s) (entryFrame m ([Value.ref b] : List Value).toArray 7) := by
  obtain ⟨hx, hb, hr, hml, hown, hts0, hX, hbl, hlocks, hgv⟩ := C0
  have hts : ∀ w ∈ zTb, w.before #[Value.ref b] s = true := fun w hw => hts0 w (List.mem_filter.mp hw).1
  have hs := flat_of_before _ hgv
  obtain ⟨D, hD⟩ := zk_D hts
  obtain ⟨cI, cJ, cE, hArr⟩ := zk_arr hts
  have hA : ∀ a : Nat, a < s.heap.size → ¬ (fun q => s.heap.size ≤ q) a := fun a h => Nat.not_le.mpr h
  obtain ⟨t, hZ, hT⟩ := zk_ord (A := fun q => s.heap.size ≤ q) (hts0 _ (List.mem_append_right _ (List.mem_of_getElem? (i := 89) (by decide +kernel)))) (hts (Cond.initialized "ZipArray$Unpacker") (tb_at 4 (by decide +kernel) rfl)) hs hA
  obtain ⟨F, w1, hf⟩ := lp ((List.range L).map xs) (by simpa using hL)
  have hV := c_Law_law (l, s.heap, D, cI, cJ, cE, t, b, (List.range L).map xs) F [] (1, w1) hf
  have hE : zE (l, s.heap, D, cI, cJ, cE, t, b, (List.range L).map xs) m_Law_law p e s m #[Value.ref b] meth c := by
    refine ⟨hx, hb, hr, hml, hown, hlocks, hnm, htab, hts, ⟨⟨hD, hArr⟩, hZ, hT, fun w hw => ?_, fun e he => Launch.traces_off hfl he, ?_, hbl⟩, ⟨Nat.le_refl _, fun _ _ _ => rfl, fun _ h => absurd h List.not_mem_nil⟩, fun q cell hq hc => ?_, fun w hw => ?_⟩
    · have h1 := hs w (zk_nc w hw)
      simp only [zNC, List.mem_flatMap, List.mem_map] at hw
      obtain ⟨a, -, b, -, rfl⟩ := hw
      exact h1
    · obtain ⟨scr, x1, x2, x3, x4, x5⟩ := hX
      refine ⟨scr, x1, x2, x3, by rw [x4]; show L = ((List.range L).map xs).length; simp, fun j hj => ?_⟩
      have hj' : j < L := by
        have h9 : j < ((List.range L).map xs).length := hj
        simpa using h9
      rw [x5 j hj']
      show some (Value.int (xs j)) = some (Value.int (((List.range L).map xs).getD j 0))
      simp [List.getD_eq_getElem?_getD, hj']
    · exact absurd (Array.getElem?_eq_some_iff.mp hc).1 (Nat.not_lt.mpr hq)
    · simp only [zSt, List.mem_cons, List.not_mem_nil, or_false] at hw
      rcases hw with rfl | rfl | rfl | rfl
      · exact hts0 (.laysStatic "java/lang/Throwable" "UNASSIGNED_STACK" "[Ljava/lang/StackTraceElement;") (List.mem_append_right _ (List.mem_of_getElem? (i := 568) (by decide +kernel)))
      · exact hts0 (.laysStatic "java/lang/Throwable" "SUPPRESSED_SENTINEL" "Ljava/util/List;") (List.mem_append_right _ (List.mem_of_getElem? (i := 570) (by decide +kernel)))
      · exact hs (Cond.isRef (.static "java/lang/Throwable" "UNASSIGNED_STACK" "[Ljava/lang/StackTraceElement;")) (by decide +kernel)
      · exact hs (Cond.isRef (.static "java/lang/Throwable" "SUPPRESSED_SENTINEL" "Ljava/util/List;")) (by decide +kernel)
  have hl := lv_entry ([.ref b]) (n := 7) (Nat.le_of_ble_eq_true rfl)
  have hR : zR (l, s.heap, D, cI, cJ, cE, t, b, (List.range L).map xs) [] s.heap [] := ⟨fun k q hq => by simp [wsO] at hq, ⟨Nat.le_refl _, fun _ _ _ => rfl, fun _ h => absurd h List.not_mem_nil⟩, rfl⟩
  intro T hT0 X
  obtain ⟨t2, a1, L', b1, b2, b3, b4, b5⟩ := hV p e s m #[Value.ref b] below meth c s.heap _ [] hE hl hR T hT0 X
  refine ⟨t2, by rw [lg_entry_eq]; exact a1, .returned (some (.int 1)), b1, b2, rfl, ⟨_, rfl⟩, b4, ?_⟩
  exact b5.weaken (fun y hy hlt => absurd hlt (Nat.not_lt.mpr (b3.2.1.2.2 y hy))) (Nat.le_refl _) (Nat.le_refl _)

set_option maxHeartbeats 4000000 in
theorem lw_walk (lp : ∀ sc : List Int32, sc.length ≤ 2048 → ∃ (F : Nat) (w1 : zW), f_Law_law F sc [] = some (1, w1)) (l : Launch) (hfl : l.flags = flags0) (b : Addr) (xs : List Int32) : MetFree l x (headSpec (Jvm.Cond.code x code maxLocals ret :: tables_1) room_1) (lw_P b xs) (fun _ _ _ _ _ => True) lw_Q := by
  refine MetFree.of_bodyS (code := code) (maxLocals := maxLocals) (ret := ret) (by decide) ?_ ?_
  · intro args s m h hn
    obtain ⟨meth, c, h1, h2, h3, h4, h5, h6, -, -⟩ := Cond.code_spec hn (atoms_spec (ws := Jvm.Cond.code x code maxLocals ret :: tables_1) h _ List.mem_cons_self)
    exact ⟨meth, c, h1, h2, h3, h4, h5, h6⟩
  · intro p e s m args below meth c s₁ B hml0 hP _
    obtain ⟨rfl, hx, hbd, hgv⟩ := hP
    obtain ⟨scr, harrAt, hlist, hof, hsmall⟩ := hx
    obtain ⟨hcb, hkn, -, -⟩ := State.arrayAt?_spec harrAt
    have hown : s.vm.findClass R_law = some m.cls := findClass_of_methodNamed B.named
    have hts0 : ∀ c ∈ (Jvm.Cond.code x code maxLocals ret :: tables_1), c.before #[Value.ref b] s = true := atoms_spec (ws := Jvm.Cond.code x code maxLocals ret :: tables_1) B.pre
    have hts : ∀ w ∈ lw_tbl, w.before #[Value.ref b] s = true := k2_hts_sels lw_privs (fun w hw => hts0 w (List.mem_cons_of_mem _ hw)) lw_privs_ok
    have hml : c.maxLocals = 7 := B.maxLocals_eq (hts0 _ List.mem_cons_self)
    have X₀ : Stand p l e room_1 s m #[Value.ref b] below meth c s₁ [] 0 0 := Stand.of_body B
    have hh0 : s₁.heap = s.heap := by rw [B.state]; rfl
    have hsz : scr.slots.size = xs.length := by rw [← Array.length_toList, hlist, List.length_map]
    have hval : ∀ j : Nat, j < xs.length → scr.slots[j]? = some (.int (xs.getD j 0)) := fun j hj => by
      rw [← Array.getElem?_toList, hlist]
      simp [hj]
    have hbl : b < s.heap.size := (Array.getElem?_eq_some_iff.mp hcb).1
    have hX : va_X b xs.length (fun j => xs.getD j 0) s s.heap := ⟨scr, hcb, hof, hkn, hsz, hval⟩
    have K : W p l e room_1 s m #[Value.ref b] below meth c s₁.heap [] 0 0 (lw_Z below #[Value.ref b] s) (entryFrame m ([Value.ref b] : List Value).toArray 7) := by
      rw [hh0]
      have hcd := hts0 _ List.mem_cons_self
      have he : c.exceptionTable.toList = [] := by simpa using B.noHandlers hcd
      exact whole_of lp l hfl hbd ⟨B.exec, B.bytes, B.returns, hml, hown, hts, hX, hbl, B.notSynchronized, hgv⟩ (name_of_methodNamed B.named B.method).1 he
    obtain ⟨t, a1, o, b1, b2, b3⟩ := K s₁ rfl X₀
    exact ⟨t, o, a1, b1, b2, b3⟩
theorem lw_pre_spec {args : Array Value} {s : State} (h : (Jvm.Cond.and given_1 narrow_1).before args s = true) (hr : rest_1_c.before args s = true) : ∃ (b : Addr) (xs : List Int32), lw_P b xs args s := by
  have hs := flat_of_before _ h
  have hq := flat_of_before _ hr
  have hc : (Cond.count 1).before args s = true := hs _ (by decide +kernel)
  have harr : (Cond.arrayOf (.arg 0) .int).before args s = true := hs _ (by decide +kernel)
  have hle : (Cond.le (.length (.arg 0)) (.int 2048)).before args s = true := hs _ (by decide +kernel)
  have hlen : (Cond.isInt (.length (.arg 0))).before args s = true := hq _ (by decide +kernel)
  have hall : (Cond.all (.arg 0) (.isInt (.elem (.arg 0) (.index 0)))).before args s = true := hq _ (by decide +kernel)
  obtain ⟨b, xs, hb, hx⟩ := State.ints_of_pre rfl harr hlen hall
  have hsm : xs.length < 2 ^ 31 := hx.choose_spec.2.2.2
  have hev : (Term.length (.arg 0)).eval args s none [] s = some (.int xs.length.toInt32) := hx.length_eval hb
  have hv := Cond.le_ints hev (show (Term.int 2048).eval args s none [] s = some (.int 2048) from rfl)
  have hd : xs.length.toInt32 ≤ 2048 := by
    simpa [Cond.before, Cond.holds, hv] using hle
  have hN : xs.length ≤ 2048 := (Int32.ofNat_le_ofNat hsm (by decide)).mp (show Int32.ofNat xs.length ≤ Int32.ofNat 2048 from hd)
  exact ⟨b, xs, Cond.one_arg hc (show args[0]? = some (.ref b) from hb), hx, hN, h⟩
theorem lw_comes (lp : ∀ sc : List Int32, sc.length ≤ 2048 → ∃ (F : Nat) (w1 : zW), f_Law_law F sc [] = some (1, w1)) (l : Launch) (hfl : l.flags = flags0) : Comes l x (Jvm.Cond.code x code maxLocals ret :: tables_1) room_1 (fun tb e args s => Calls_1 tb e args s ∧ rest_1 tb e args s ∧ Pre_1 tb e args s)
    (fun _ _ args s o t => lw_Q args s o t) := by
  intro p e ha hc hk s m args below hf hfit hheap happ hpre
  obtain ⟨b, xs, hP⟩ := lw_pre_spec hpre.2.2 hpre.2.1
  obtain ⟨k, o, h1, h2, h3, hQ⟩   := lw_walk lp l hfl b xs p e ha hc hk s m args below hf ((Spec.applies_iff_loose hf).mp happ).1 hP trivial
  exact ⟨k, o, h1, h2, h3, hQ⟩
theorem lw_frame {s t : State} {o : Outcome} {args : Array Value} (h : Framed s o t [] 601024 7293034) :
    Framed s o t (fieldLocs frame_1_writes args s ++ arrayLocs frame_1_arrays args s ++ staticLocs frame_1_statics s) 601024 7293034 := h
theorem lw_limb (lp : ∀ sc : List Int32, sc.length ≤ 2048 → ∃ (F : Nat) (w1 : zW), f_Law_law F sc [] = some (1, w1)) (L : Cond) (hL : ∀ (args : Array Value) (s t : State), L.after args s (.returned (some (.int 1))) t = true) :
    ArmFor flags0 classFile x code maxLocals ret World_1 tables_1 room_1 Calls_1 rest_1 Pre_1
      (fun tb e a s o t => postC L tb e a s o t ∧ Framed s o t (fieldLocs frame_1_writes a s ++ arrayLocs frame_1_arrays a s ++ staticLocs frame_1_statics s) 601024 7293034) := by
  intro l hfl _ _ p e ha hc hk s m args below hf hfit hheap happ hpre
  obtain ⟨k, o, h1, h2, h3, rfl, hF⟩ := lw_comes lp l hfl p e ha hc hk s m args below hf hfit hheap happ hpre
  exact ⟨k, _, h1, h2, h3, hL args s _, lw_frame hF⟩
theorem i_vc_open (lp : ∀ sc : List Int32, sc.length ≤ 2048 → ∃ (F : Nat) (w1 : zW), f_Law_law F sc [] = some (1, w1)) : Claimed_1_1 ∧ Claimed_1_2 := ⟨lw_limb lp limb_1_1 (fun args s t => by simp [limb_1_1, Cond.after, Cond.holds, Cond.value]), lw_limb lp limb_1_2 (fun args s t => Cond.after_iff.mpr (by
  first | (rw [show limb_1_2 = Cond.eq .result (.int 1) from rfl, Cond.eq_ints (x := 1) (y := 1) rfl rfl]; simp; done) | (simp [limb_1_2, Cond.value, Term.eval]; done)))⟩
