/-! The row for 'new X; dup; invokespecial X.<init>; athrow' where no handler covers it. -/
theorem st_args {w : Cond} (hw : w ∈ zSt) {args : Array Value} {s : State} (h : w.before #[] s = true) : w.before args s = true := by
  simp only [zSt, List.mem_cons, List.not_mem_nil, or_false] at hw
  rcases hw with rfl | rfl | rfl | rfl <;> exact h
/-- what stays the same of all cells if none is written -/
theorem same_cells {s t : State} {k n : Nat} (h : s.sameButNew t [] k n) (q : Nat) (hq : q < s.heap.size) : t.heap[q]? = s.heap[q]? := by
  have hc : s.heap[q]? = some s.heap[q] := Array.getElem?_eq_getElem hq
  obtain ⟨c', h1, h2, h3, h4⟩ := h.2.2.2.2.2 q _ hc
  rw [h1, hc]
  have : c'.slots = s.heap[q].slots := by
    apply Array.ext_getElem?
    intro i
    exact h4 i (by simp)
  rw [h2, this]
def zNm : List String := ["java/lang/RuntimeException", "java/lang/Exception"]
def zAt (own : String) (ic : Nat) (X : String) : Prop := ∀ a ∈ Bundle.ownAtoms0 own ic X zNm, a ∈ zTb ∨ a ∈ zSt
section T
variable {G : zG} {M : zM} {pc : Nat} {lv : List (Nat × Value)} {st : List Value} {w : zW} {n1 n2 : Nat}
theorem V_throw {ci i ic : Nat} {X : String} (hd0 : decode (mC M) pc = .ok (.new i, 3)) (hd3 : decode (mC M) (pc + 3) = .ok (.dup, 1)) (hd4 : decode (mC M) (pc + 4) = .ok (.invokespecial ic, 3)) (hd7 : decode (mC M) (pc + 7) = .ok (.athrow, 1))
    (hc : zCl[ci]? = some (X, T_none, 0)) (hX : Bundle.fit X = true) (hcl : Cond.classLink (mY M).cls i X ∈ zTb) (hins : Cond.instantiable X 6 ∈ zTb) (hini : Cond.initialized X ∈ zTb) (hat : zAt (mY M).cls ic X)
    (hout : (tableOf (mH M)).all (fun x => !covers x (pc + 7)) = true) (hf : 6 ≤ (mR M).frames) (hl0 : (st.map fun v => v.category).sum + 81 ≤ (mR M).locals) (h1 : n1 + 1 ≤ (mR M).cells) (h2 : n2 + 6 ≤ (mR M).slots) :
    zV G M pc lv st w n1 n2 (.threw (z0 G + w.length)) (w ++ [.inr (.inr (.inr (ci, [])))]) := by
  intro p e s m args below meth c H ls locs E hl hR T hT X0
  subst hT
  obtain ⟨hexec, hb, -, hml, hown, hlocks, -, htab, hts, hK, hN⟩ := E
  have X1 := rebase X0 (k := 1) (n := 6) h1 h2
  have hWs : s.WarmedH (T.setFrames (.invoking m args :: below)).vm := X0.warmed
  have hRs : zR G w (T.setFrames (.invoking m args :: below)).heap locs := hR
  have hts1 : ∀ x ∈ zTb, x.before args (T.setFrames (.invoking m args :: below)) = true := tbl_mv hWs hts
  have hK1 := zK_mv hWs hK
  have hN1 := zN_mv hWs hN hRs
  have hown1 : (T.setFrames (.invoking m args :: below)).vm.findClass (mY M).cls = some m.cls := by rw [hWs.alike.findClass]; exact hown
  have hheap : (T.setFrames (.invoking m args :: below)).heap = T.heap := rfl
  generalize hs1 : T.setFrames (.invoking m args :: below) = s1 at X1 hWs hRs hts1 hK1 hN1 hown1 hheap
  have hKn := hK1.1.1 ci _ hc
  have key : W p (gL G) e { mR M with cells := 1, slots := 6 } s1 m args below meth c s1.heap [] 0 0 (fun t => t.status = .running ∧ Ended t below (.threw (z0 G + w.length)) ∧ s1.WarmedH t.vm ∧ s1.sameButNew ({ t with vm := s1.vm } : State) [] 1 6 ∧ ∃ ce, t.heap[z0 G + w.length]? = some ce ∧ ce.cls = (gD G).1 ci ∧ ce.vm = .none) (F0 m pc ls st) := by
    refine W.newcK hexec hb hown1 (hts1 _ hcl) (hts1 _ hins) (hts1 _ hini) rfl hd0 (Nat.le_refl 1) (Nat.le_refl 6) hKn.2.1 hRs.2.2 fun H1 kC hkC e1 z1 o1 => ?_
    refine lv_dup hexec hb hd3 rfl ?_
    intro T2 hT2 X2
    have hlen : zNm.length = 2 := rfl
    obtain ⟨U, u1, u2, u3, u4, u5, ce, u6, u7⟩ := X2.ctorThrow0 hexec (hK1.2.2.2.2.1 e X2.admits) (own := (mY M).cls) (cls := X) (names := zNm) (ic := ic) hown1 hX (by decide +kernel) (fun x hx => (hat x hx).elim (hts1 x) (fun h => st_args h (hN1.2.2 x h)))
      (fun x hx => absurd hx List.not_mem_nil) hKn.2.1 hkC (by rw [hT2]; exact e1) (by rw [hRs.2.2]; exact Nat.le_refl _) (g := F0 m (pc + 4) ls (.ref (z0 G + w.length) :: .ref (z0 G + w.length) :: st)) rfl (hl.1.trans hml.symm) rfl rfl (rest := st) rfl (by rw [hb]; exact hd4) (by rw [hb]; exact hd7) (outside_of_table htab hout) (by rw [hlen]; exact hf)
      (by
        rw [hlen]
        show 2 * 0 + (1 + (st.map fun v => v.category).sum) + 80 ≤ (mR M).locals
        omega) hlocks
    refine ⟨U, u1, u2, u3, u4, u5, ce, u6, ?_, u7.vm⟩
    exact Option.some.inj (u7.cls.symm.trans hKn.2.1)
  obtain ⟨t, st1, a1, a2, a3, a4, ce, a5, a6, a7⟩ := key T hheap.symm X1
  have hsz : T.heap.size = z0 G + w.length := hR.2.2
  have hcells : ∀ q, q < T.heap.size → t.heap[q]? = T.heap[q]? := fun q hq => by
    have h3 := same_cells a4 q (by rw [hheap]; exact hq)
    rw [hheap] at h3
    exact h3
  have htsz : t.heap.size = T.heap.size + 1 := by
    have b1 : t.heap.size ≤ s1.heap.size + 1 := a4.2.2.1
    have b2 : z0 G + w.length < t.heap.size := (Array.getElem?_eq_some_iff.mp a5).1
    rw [hheap] at b1
    omega
  have hWt : T.WarmedH t.vm := by subst hs1; exact a3
  have hsame : T.sameButNew (t.setVm T.vm) [] 1 6 := by
    subst hs1
    obtain ⟨b1, b2⟩ := a4
    refine ⟨?_, b2⟩
    rw [State.setFrames_setFrames] at b1
    exact b1
  refine ⟨t, st1, locs, a1, a2, ?_, State.WarmedH.trans X0.warmed hWt, ?_⟩
  · exact zR.app hR htsz hcells ⟨_, hc, ce, a5, a6, a7, fun k hk => absurd hk (Nat.not_lt_zero k)⟩
  · have h3 := X0.same.trans (hsame.setVm s.vm)
    rw [List.append_nil] at h3
    exact h3.mono h1 h2
end T
