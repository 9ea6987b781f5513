/-! A callee that throws into a handler of ours; arrays of entries; switches. -/
def sget (sc : List Int32) (i : Int32) : Option Int32 := if i < 0 then none else sc[i.toNatClampNeg]?
section R
variable {G : zG} {M N : zM} {pc : Nat} {lv : List (Nat × Value)} {st st0 a : List Value} {w w1 w2 : zW} {n1 n2 : Nat} {o : Outcome}
/-- a clause that covers pc and whose class the thrown X is not of -/
def zPass (M : zM) (pc : Nat) (X : String) (q : Nat × Nat × Nat × Nat) : Prop := covers ⟨q.1, q.2.1, q.2.2.1, q.2.2.2⟩ pc = true ∧ q.2.2.2 ≠ 0 ∧ ∃ Y, Cond.classLink (mY M).cls q.2.2.2 Y ∈ zTb ∧ Cond.not (.castable X Y) ∈ zNC
theorem V_callC {k ci : Nat} {X : String} {pre rest : List (Nat × Nat × Nat × Nat)} {q : Nat × Nat × Nat × Nat} (I : zInv G M N pc w a st st0) (F : zFit M N) (hs : (st.map fun v => v.category).sum ≤ 8) (h3 : n1 + (mR N).cells ≤ (mR M).cells) (h4 : n2 + (mR N).slots ≤ (mR M).slots) (hC : zCT G N a w (.threw (z0 G + k)) w2)
    (hk : zobj w2 k ci = some []) (hc : zCl[ci]? = some (X, T_none, 0)) (hH : mH M = pre ++ q :: rest) (hp : ∀ x ∈ pre, zPass M pc X x) (hq : covers ⟨q.1, q.2.1, q.2.2.1, q.2.2.2⟩ pc = true ∧ q.2.2.2 ≠ 0) (hql : Cond.classLink (mY M).cls q.2.2.2 X ∈ zTb) (hqc : Cond.castable X X ∈ zTb)
    (kk : zV G M q.2.2.1 lv [.ref (z0 G + k)] w2 (n1 + (mR N).cells) (n2 + (mR N).slots) o w1) : zV G M pc lv st0 w n1 n2 o w1 := by
  intro p e s m args below meth c H ls locs E hl hR T hT X0
  subst hT
  obtain ⟨mk, vm₁, ig, X₁, hn, hdg, go⟩ := I p e s m args below meth c ls locs n1 n2 T E hR X0 hl.1
  have hR1 : zR G w (T.setVm vm₁).heap locs := hR
  obtain ⟨t, L, st1, hend, r1, r2, r3⟩ := zcall (N := N) X₁ E hR1 (g := F0 m pc ls st) rfl (hl.1.trans E.2.2.2.1.symm) hdg hn F.1 F.2.1 F.2.2.1 (by
    have h := F.2.2.2
    have : 2 * (F0 m pc ls st).monitorRoom = 0 := rfl
    rw [this]
    show 0 + (st.map fun v => v.category).sum + (mL N + 11) + (mR N).locals ≤ (mR M).locals
    omega) h3 h4 hC
  obtain ⟨T', X', hW', hsame', ht⟩ := X₁.outOfThrown (g := F0 m pc ls st) rfl hend r2 r3
  have hh : t.heap = T'.heap := by rw [ht]; exact Stand.throwing_heap _ _ _
  rw [hh] at r1
  have hts := E.2.2.2.2.2.2.2.2.1
  have hK := E.2.2.2.2.2.2.2.2.2.1
  obtain ⟨r, hr, cell, q1, q2, q3, -⟩ := r1.1 k _ (wsO_at (G := G) (zobj_at hk))
  have q1 : T'.heap[z0 G + k]? = some cell := q1
  obtain ⟨hfc, kC, hkC, -⟩ := (hK.1.1 ci _ hc).2
  have q2 : cell.cls = (gD G).1 ci := q2
  have hcl : s.vm.findClass X = some cell.cls := by rw [q2]; exact hfc
  have htab : c.exceptionTable.toList = tableOf pre ++ ⟨q.1, q.2.1, q.2.2.1, q.2.2.2⟩ :: tableOf rest := by
    rw [E.2.2.2.2.2.2.2.1, hH]
    simp [tableOf]
  obtain ⟨vm', X2, st2⟩ := caught X' (z0 G + k) (g := F0 m pc ls st) rfl E.2.2.2.2.1 q1 (by rw [q3]; rfl) ⟨kC, by rw [q2]; exact hkC⟩ htab (by
    intro y hy
    obtain ⟨x, hx, rfl⟩ := List.mem_map.mp hy
    obtain ⟨b1, b2, Y, b3, b4⟩ := hp x hx
    obtain ⟨c1, t1, d1, d2, d3⟩ := va_Nc.of (hK.2.2.2.1 _ b4)
    cases hcl.symm.trans d1
    exact ⟨b1, b2, Y, t1, hts _ b3, d2, d3⟩) (by
    obtain ⟨c1, t1, d1, d2, d3⟩ := Cond.castable_spec (hts _ hqc)
    cases hcl.symm.trans d1
    cases hcl.symm.trans d2
    exact ⟨hq.1, hq.2, X, _, hts _ hql, hcl, d3⟩)
  obtain ⟨t2, a1, b1⟩ := kk p e s m args below meth c T'.heap ls (locs ++ L) E hl (r1.more hR.2.1.2.2) (T'.setVm vm') rfl X2
  rw [ht] at st1
  exact ⟨t2, go _ (st1.trans (st2 _ a1)), b1⟩
theorem V_newE {i N : Nat} {n : Int32} (hd : decode (mC M) pc = .ok (.anewarray i, 3)) (hcl : Cond.classLink (mY M).cls i "ZipArray$Entry" ∈ zTb) (hw : Cond.arrayOver (.object "ZipArray$Entry") ∈ zTb) (hn : ¬ n < 0) (hN : n.toNatClampNeg = N) (hb : N ≤ 100000) (h1 : n1 + 1 ≤ (mR M).cells) (h2 : n2 + N ≤ (mR M).slots)
    (kk : zV G M (pc + 3) lv (.ref (z0 G + w.length) :: st) (w ++ [.inr (.inr (.inl (List.replicate N none)))]) (n1 + 1) (n2 + N) o w1) : zV G M pc lv (.int n :: st) w n1 n2 o w1 := fun p e s m args below meth c H ls locs E hl hR => by
  have hts := E.2.2.2.2.2.2.2.2.1
  subst hN
  refine W.anew E.1 E.2.1 E.2.2.2.2.1 (hts _ hcl) (hts _ hw) rfl hd rfl hn (by omega) h1 h2 fun cA kA comp f1 f2 f3 f4 => ?_
  obtain ⟨-, comp2, -, -, -, hnm⟩ := (E.2.2.2.2.2.2.2.2.2.1.1.2 2 _ rfl).2
  have hcA : cA = gE G := Option.some.inj (f1.symm.trans hnm)
  subst hcA
  generalize hH1 : H.push ({ cls := gE G, slots := Array.replicate n.toNatClampNeg .null, vm := .none } : Cell) = H1
  have z1 : H1.size = H.size + 1 := by rw [← hH1, Array.size_push]
  have e1 : H1[H.size]? = some (arrV (gE G) n.toNatClampNeg (fun _ => .null)) := by rw [← hH1, Array.getElem?_push_size, ← arrV_new]
  have o1 : ∀ q : Nat, q < H.size → H1[q]? = H[q]? := fun q hq => by rw [← hH1, Array.getElem?_push, if_neg (Nat.ne_of_lt hq)]
  have hsz : H.size = z0 G + w.length := hR.2.2
  refine W.eq (g2 := F0 m (pc + 3) ls (.ref (z0 G + w.length) :: st)) (by rw [hsz]) ?_
  refine kk p e s m args below meth c H1 ls locs E hl (zR.app hR z1 o1 ?_)
  show H1[z0 G + w.length]? = some (vp_cell _ _)
  rw [← hsz, e1, vp_cell_q, List.length_replicate]
  congr 2
  funext j
  rw [List.getD_eq_getElem?_getD, List.getElem?_replicate]
  split <;> rfl
theorem V_rset {q x ci K : Nat} {T : u_T} {i : Int32} {w2 : zW} (hd : decode (mC M) pc = .ok (.aastore, 1)) (hx : rset w q i x ci = some w2) (hc : zCl[ci]? = some ("ZipArray$Entry", T, K)) (kk : zV G M (pc + 1) lv st w2 n1 n2 o w1) : zV G M pc lv (.ref (z0 G + x) :: .int i :: .ref (z0 G + q) :: st) w n1 n2 o w1 := fun p e s m args below meth c H ls locs E hl hR => by
  obtain ⟨fs, g1, hx⟩ := ob hx
  obtain ⟨xs, g2, hx⟩ := ob hx
  split at hx
  · cases hx
  rename_i h0
  have hw2 := Option.some.inj hx
  subst hw2
  have hlt : i.toNatClampNeg < xs.length := Nat.not_le.mp fun hq => h0 (Or.inr hq)
  have hK := E.2.2.2.2.2.2.2.2.2.1.1
  have hD : va_D (zA G) (wsO G w) := wsO_D
  have he := wsO_at (G := G) (zrefs_at g2)
  obtain ⟨r', hr', cellV, e1, e2, e3, -⟩ := hR.1 x _ (wsO_at (G := G) (zobj_at g1))
  have e2 : cellV.cls = (gD G).1 ci := e2
  have hcls := (hK.1 ci _ hc).2
  obtain ⟨kA, comp, k1, k2, k3, -⟩ := (hK.2 2 _ rfl).2
  have hcomp : comp = (gD G).1 ci := Option.some.inj (k3.symm.trans hcls.1)
  subst hcomp
  obtain ⟨kC, hkC, -⟩ := hcls.2
  refine W.aast E.1 E.2.1 (hR.1 q _ he) (fun q h => by cases h) (fun h => by cases h) k1 k2 rfl hkC ⟨fun h => h0 (Or.inl h), by show _ < (arrV _ _ _).slots.size; rw [arrV_size]; exact hlt⟩ e1 (fun q h => by rw [e3] at h; cases h) (by rw [e2]; exact hkC) (by rw [e2]; exact va_assign hcls) rfl rfl hd fun H1 e z oq => ?_
  refine kk p _ s m args below meth c H1 ls _ E hl (zR.set rfl (hR.1.set hD he ?_ oq) (hR.2.1.put z oq (hD.2 q _ he)) (z.trans hR.2.2))
  show H1[z0 G + q]? = some (vp_cell _ _)
  rw [e, vp_cell_q, vp_cell_q, arrV_store, List.length_set]
  congr 2
  funext j
  rw [getD_set hlt]
  by_cases hj : j = i.toNatClampNeg
  · subst hj; simp [updV, va_rf]
  · simp [updV, hj]
theorem V_tabIn {x : Int32} {dflt lo hi off : Int} {offs : Array Int} {len tgt : Nat} (hd : decode (mC M) pc = .ok (.tableswitch dflt lo hi offs, len)) (h1 : ¬ x.toInt < lo) (h2 : ¬ hi < x.toInt) (ho : offs[(x.toInt - lo).toNat]? = some off) (ht : (pc : Int) + off = (tgt : Int)) (kk : zV G M tgt lv st w n1 n2 o w1) : zV G M pc lv (.int x :: st) w n1 n2 o w1 := fun p e s m args below meth c H ls locs E hl hR =>
  lv_tableIn E.1 E.2.1 hd h1 h2 ho ht (kk p e s m args below meth c H ls locs E hl hR)
theorem V_tabOut {x : Int32} {dflt lo hi : Int} {offs : Array Int} {len tgt : Nat} (hd : decode (mC M) pc = .ok (.tableswitch dflt lo hi offs, len)) (h : x.toInt < lo ∨ hi < x.toInt) (ht : (pc : Int) + dflt = (tgt : Int)) (kk : zV G M tgt lv st w n1 n2 o w1) : zV G M pc lv (.int x :: st) w n1 n2 o w1 := fun p e s m args below meth c H ls locs E hl hR =>
  lv_tableOut E.1 E.2.1 hd h ht (kk p e s m args below meth c H ls locs E hl hR)
theorem V_slen (hd : decode (mC M) pc = .ok (.arraylength, 1)) (kk : zV G M (pc + 1) lv (.int (Int32.ofNat (gS G).length) :: st) w n1 n2 o w1) : zV G M pc lv (.ref (gB G) :: st) w n1 n2 o w1 := fun p e s m args below meth c H ls locs E hl hR =>
  va_slen E.1 E.2.1 E.2.2.2.2.2.2.2.2.2.1.2.2.2.2.2.1 E.2.2.2.2.2.2.2.2.2.1.2.2.2.2.2.2 (Nat.not_le.mpr E.2.2.2.2.2.2.2.2.2.1.2.2.2.2.2.2) hR.2.1 hd (kk p e s m args below meth c H ls locs E hl hR)
theorem V_sget {i x : Int32} (hd : decode (mC M) pc = .ok (.iaload, 1)) (hx : sget (gS G) i = some x) (kk : zV G M (pc + 1) lv (.int x :: st) w n1 n2 o w1) : zV G M pc lv (.int i :: .ref (gB G) :: st) w n1 n2 o w1 := fun p e s m args below meth c H ls locs E hl hR => by
  obtain ⟨h3, h4⟩ := in_of_get hx
  refine va_sld E.1 E.2.1 E.2.2.2.2.2.2.2.2.2.1.2.2.2.2.2.1 E.2.2.2.2.2.2.2.2.2.1.2.2.2.2.2.2 (Nat.not_le.mpr E.2.2.2.2.2.2.2.2.2.1.2.2.2.2.2.2) hR.2.1 h3 hd ?_
  rw [getD_of h4]
  exact kk p e s m args below meth c H ls locs E hl hR
end R
