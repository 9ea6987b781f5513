/-! LENGTH_ORDER, Math.min, System.arraycopy, arrays of entries, switches. -/
def zOrd : List Int32 := [16, 17, 18, 0, 8, 7, 9, 6, 10, 5, 11, 4, 12, 3, 13, 2, 14, 1, 15]
def ordget (i : Int32) : Option Int32 := if i < 0 then none else zOrd[i.toNatClampNeg]?
/-- a stretch of one list over a stretch of another -/
def zcpy (xs ys : List Int32) (sp dp n : Nat) : List Int32 := ys.take dp ++ (xs.drop sp).take n ++ ys.drop (dp + n)
def acopy (w : zW) (a : Nat) (sp : Int32) (b : Nat) (dp n : Int32) : Option zW := (zints w a).bind fun xs => (zints w b).bind fun ys =>
  if sp < 0 ∨ dp < 0 ∨ n < 0 ∨ xs.length < sp.toNatClampNeg + n.toNatClampNeg ∨ ys.length < dp.toNatClampNeg + n.toNatClampNeg then none else some (w.set b (.inl (zcpy xs ys sp.toNatClampNeg dp.toNatClampNeg n.toNatClampNeg)))
theorem zcpy_len {xs ys : List Int32} {sp dp n : Nat} (h1 : sp + n ≤ xs.length) (h2 : dp + n ≤ ys.length) : (zcpy xs ys sp dp n).length = ys.length := by
  simp [zcpy]; omega
theorem zcpy_get {xs ys : List Int32} {sp dp n : Nat} (h1 : sp + n ≤ xs.length) (h2 : dp + n ≤ ys.length) (j : Nat) : (zcpy xs ys sp dp n).getD j 0 = if dp ≤ j ∧ j < dp + n then xs.getD (sp + (j - dp)) 0 else ys.getD j 0 := by
  simp only [List.getD_eq_getElem?_getD, zcpy]
  have hl1 : (ys.take dp).length = dp := by rw [List.length_take]; omega
  have hl2 : ((xs.drop sp).take n).length = n := by rw [List.length_take, List.length_drop]; omega
  by_cases ha : j < dp
  · rw [if_neg (by omega), List.append_assoc, List.getElem?_append_left (by omega), List.getElem?_take_of_lt ha]
  · by_cases hb : j < dp + n
    · rw [if_pos ⟨by omega, hb⟩, List.append_assoc, List.getElem?_append_right (by omega), hl1, List.getElem?_append_left (by omega), List.getElem?_take_of_lt (by omega), List.getElem?_drop]
    · rw [if_neg (by omega), List.getElem?_append_right (by rw [List.length_append]; omega), List.length_append, hl1, hl2, List.getElem?_drop]
      congr 2
      omega
section O
variable {G : zG} {M : zM} {pc : Nat} {lv : List (Nat × Value)} {st : List Value} {w w1 : zW} {n1 n2 : Nat} {o : Outcome}
theorem V_ord {i : Nat} (hd : decode (mC M) pc = .ok (.getstatic i, 3)) (hw : Cond.fieldLink (mY M).cls i "ZipArray$Unpacker" "LENGTH_ORDER" "[I" ∈ zTb) (kk : zV G M (pc + 3) lv (.ref (gO G) :: st) w n1 n2 o w1) : zV G M pc lv st w n1 n2 o w1 := fun p e s m args below meth c H ls locs E hl hR => by
  have hK := E.2.2.2.2.2.2.2.2.2.1
  have hN := E.2.2.2.2.2.2.2.2.2.2
  intro T hT X
  refine va_gets (A := zA G) E.1 E.2.1 (va_Z.kept hK.2.1 hN.1.2.1) ⟨?_, fun q h1 h2 => ?_, hR.2.1.2.2⟩ E.2.2.2.2.1 (E.2.2.2.2.2.2.2.2.1 _ hw) (fun _ h => h) hd (kk p e s m args below meth c H ls locs E hl hR) T hT X
  · rw [← hT]; exact X.same.2.1
  · have hq : q < z0 G := Nat.not_le.mp h2
    exact (hR.2.1.2.1 q hq h2).trans (hN.1.2.1 q hq h2).symm
theorem V_ordlen (hd : decode (mC M) pc = .ok (.arraylength, 1)) (kk : zV G M (pc + 1) lv (.int 19 :: st) w n1 n2 o w1) : zV G M pc lv (.ref (gO G) :: st) w n1 n2 o w1 := fun p e s m args below meth c H ls locs E hl hR => by
  obtain ⟨cell, h1, h2, h3, h4, h5, h6, h7⟩ := E.2.2.2.2.2.2.2.2.2.1.2.2.1
  exact W.alen (n := 19) E.1 E.2.1 (by rw [hR.2.1.2.1 _ (Nat.not_le.mp h7) h7]; exact h1) h2 h5 rfl rfl hd (kk p e s m args below meth c H ls locs E hl hR)
theorem V_ordget {i x : Int32} (hd : decode (mC M) pc = .ok (.iaload, 1)) (hx : ordget i = some x) (kk : zV G M (pc + 1) lv (.int x :: st) w n1 n2 o w1) : zV G M pc lv (.int i :: .ref (gO G) :: st) w n1 n2 o w1 := fun p e s m args below meth c H ls locs E hl hR => by
  obtain ⟨cell, h1, h2, h3, h4, h5, h6, h7⟩ := E.2.2.2.2.2.2.2.2.2.1.2.2.1
  obtain ⟨g1, g2⟩ := in_of_get hx
  have hlt : i.toNatClampNeg < 19 := (List.getElem?_eq_some_iff.mp g2).1
  refine W.iald (v := .int x) E.1 E.2.1 (by rw [hR.2.1.2.1 _ (Nat.not_le.mp h7) h7]; exact h1) h2 h3 (fun hq => ?_) ?_ rfl rfl hd (kk p e s m args below meth c H ls locs E hl hR)
  · rcases hq with hq | hq
    · exact g1 (Or.inl hq)
    · omega
  · rw [h6 _ hlt]
    exact congrArg (fun y => some (Value.int y)) (getD_of g2)
theorem V_min {i : Nat} {x y : Int32} (hd : decode (mC M) pc = .ok (.invokestatic i, 3)) (hlink : Cond.methodLink (mY M).cls i Lib.Math.min.name ∈ zTb) (hstat : Cond.static Lib.Math.min.name ∈ zTb) (hini : Cond.initialized "java/lang/Math" ∈ zTb) (hcode : Cond.code Lib.Math.min.name Lib.Math.min.code 2 (some .int) ∈ zTb)
    (h1 : 1 ≤ (mR M).frames) (h2 : (st.map fun v => v.category).sum + 13 ≤ (mR M).locals) (h3 : n1 ≤ (mR M).cells) (h4 : n2 ≤ (mR M).slots) (kk : zV G M (pc + 3) lv (.int (if y < x then y else x) :: st) w n1 n2 o w1) : zV G M pc lv (.int y :: .int x :: st) w n1 n2 o w1 := fun p e s m args below meth c H ls locs E hl hR => by
  have hts := E.2.2.2.2.2.2.2.2.1
  exact va_mmin E.1 E.2.1 (E.2.2.2.1.trans hl.1.symm) E.2.2.2.2.1 (hts _ hlink) (hts _ hstat) (hts _ hini) (hts _ hcode) h1 h2 h3 h4 hd (kk p e s m args below meth c H ls locs E hl hR)
theorem nn_of (z : Int32) (hz : ¬ z < 0) : z.toInt = (z.toNatClampNeg : Int) := by
  have hz0 : (0 : Int) ≤ z.toInt := by
    have := Int32.not_lt.mp hz
    simpa using Int32.le_iff_toInt_le.mp this
  show z.toInt = ((z.toInt.toNat : Nat) : Int)
  omega
theorem V_copy {i a b : Nat} {sp dp n : Int32} {w2 : zW} (hd : decode (mC M) pc = .ok (.invokestatic i, 3)) (hx : acopy w a sp b dp n = some w2) (hlink : Cond.methodLink (mY M).cls i arraycopyName ∈ zTb) (hnat : Cond.native arraycopyName ∈ zTb) (hstat : Cond.static arraycopyName ∈ zTb) (hini : Cond.initialized "java/lang/System" ∈ zTb)
    (h1 : 1 ≤ (mR M).frames) (h2 : (st.map fun v => v.category).sum + (nativeFrameWords "java/lang/System" "arraycopy" 5 + 11) ≤ (mR M).locals) (kk : zV G M (pc + 3) lv st w2 n1 n2 o w1) : zV G M pc lv (.int n :: .int dp :: .ref (z0 G + b) :: .int sp :: .ref (z0 G + a) :: st) w n1 n2 o w1 := fun p e s m args below meth c H ls locs E hl hR => by
  obtain ⟨xs, g1, hx⟩ := ob hx
  obtain ⟨ys, g2, hx⟩ := ob hx
  split at hx
  · cases hx
  rename_i hno
  have hw2 := Option.some.inj hx
  subst hw2
  have k1 : ¬ sp < 0 := fun h => hno (Or.inl h)
  have k2 : ¬ dp < 0 := fun h => hno (Or.inr (Or.inl h))
  have k3 : ¬ n < 0 := fun h => hno (Or.inr (Or.inr (Or.inl h)))
  have k4 : sp.toNatClampNeg + n.toNatClampNeg ≤ xs.length := Nat.not_lt.mp fun h => hno (Or.inr (Or.inr (Or.inr (Or.inl h))))
  have k5 : dp.toNatClampNeg + n.toNatClampNeg ≤ ys.length := Nat.not_lt.mp fun h => hno (Or.inr (Or.inr (Or.inr (Or.inr h))))
  have hts := E.2.2.2.2.2.2.2.2.1
  have hK := E.2.2.2.2.2.2.2.2.2.1.1
  have hD : va_D (zA G) (wsO G w) := wsO_D
  intro T hT X
  have ea := wsO_at (G := G) (zints_at g1)
  have eb := wsO_at (G := G) (zints_at g2)
  have hc0 : H[z0 G + a]? = some (vp_cell (gI G) (xs.length, .inl (fun j => xs.getD j 0))) := hR.1 a _ ea
  have hc1 : H[z0 G + b]? = some (vp_cell (gI G) (ys.length, .inl (fun j => ys.getD j 0))) := hR.1 b _ eb
  obtain ⟨-, k0, hk0, cm0, hkk0⟩ := (hK.2 0 _ rfl).1 xs.length (fun j => .int (xs.getD j 0))
  obtain ⟨vm', X', step⟩ := X.arraycopy E.1 E.2.2.2.2.1 (hts _ hlink) (hts _ hnat) (hts _ hstat) (hts _ hini) (src := z0 G + a) (dst := z0 G + b) (cs := vp_cell (gI G) (xs.length, .inl (fun j => xs.getD j 0))) (cd := vp_cell (gI G) (ys.length, .inl (fun j => ys.getD j 0))) (srcPos := sp) (destPos := dp) (n := n) (by rw [hT]; exact hc0) (by rw [hT]; exact hc1)
    (fun _ h => by cases h) (fun _ h => by cases h) (fun h => by cases h) (fun h => by cases h) hk0 hk0 hkk0 hkk0 (by simp) k1 k2 k3
    (by rw [nn_of sp k1, nn_of n k3]; show ¬ _ > ((arrV (gI G) xs.length _).slots.size : Int); rw [arrV_size]; omega)
    (by rw [nn_of dp k2, nn_of n k3]; show ¬ _ > ((arrV (gI G) ys.length _).slots.size : Int); rw [arrV_size]; omega)
    (fun vm₁ _ i hi => by
      have e : (vp_cell (gI G) (xs.length, .inl (fun j => xs.getD j 0))).slots.getD (sp.toNatClampNeg + i) .null = .int (xs.getD (sp.toNatClampNeg + i) 0) := by
        show (arrV (gI G) xs.length (fun j => .int (xs.getD j 0))).slots.getD _ _ = _
        rw [Array.getD_eq_getD_getElem?, arrV_read _ _ (by omega)]
        rfl
      exact ⟨by rw [e]; rfl, by rw [e]; exact trivial⟩)
    (g := F0 m pc ls (.int n :: .int dp :: .ref (z0 G + b) :: .int sp :: .ref (z0 G + a) :: st)) rfl (hl.1.trans E.2.2.2.1.symm) (rest := st) rfl (by rw [E.2.1]; exact hd) h1 (by show 2 * 0 + _ + _ ≤ _; omega)
  have e1 : copied (vp_cell (gI G) (xs.length, .inl (fun j => xs.getD j 0))) (vp_cell (gI G) (ys.length, .inl (fun j => ys.getD j 0))) sp dp n = vp_cell (gI G) (ys.length, .inl (va_cpy (fun j => xs.getD j 0) (fun j => ys.getD j 0) sp.toNatClampNeg dp.toNatClampNeg n.toNatClampNeg)) := va_copied (fun z => .int z) (gI G) (gI G) (fun j => xs.getD j 0) (fun j => ys.getD j 0) k4
  have e2 : (Sum.inl (gI G, ys.length, .inl (va_cpy (fun j => xs.getD j 0) (fun j => ys.getD j 0) sp.toNatClampNeg dp.toNatClampNeg n.toNatClampNeg)) : va_E) = img G (.inl (zcpy xs ys sp.toNatClampNeg dp.toNatClampNeg n.toNatClampNeg)) := by
    simp only [img]
    rw [zcpy_len k4 k5]
    congr 4
    funext j
    rw [zcpy_get k4 k5]
    rfl
  rw [e1] at X' step
  have hl2 : z0 G + b < H.size := (Array.getElem?_eq_some_iff.mp hc1).1
  generalize hcell : vp_cell (gI G) (ys.length, .inl (va_cpy (fun j => xs.getD j 0) (fun j => ys.getD j 0) sp.toNatClampNeg dp.toNatClampNeg n.toNatClampNeg)) = cN at X' step
  have hheap : ((T.setVm vm').setCell (z0 G + b) cN).heap = H.setIfInBounds (z0 G + b) cN := by rw [← hT]; rfl
  have oq : ∀ q : Nat, q ≠ z0 G + b → (H.setIfInBounds (z0 G + b) cN)[q]? = H[q]? := fun q hq => by simp [Array.getElem?_setIfInBounds, Ne.symm hq]
  have hz1 : (H.setIfInBounds (z0 G + b) cN).size = H.size := by simp
  obtain ⟨t, a1, b1⟩ := kk p e s m args below meth c _ ls _ E hl (zR.set e2 (hR.1.set hD eb (show (H.setIfInBounds (z0 G + b) cN)[z0 G + b]? = some (vp_cell _ _) by rw [hcell]; simp [Array.getElem?_setIfInBounds, hl2]) oq) ⟨by rw [hz1]; exact hR.2.1.1, fun q g1 g2 => by
      rw [oq q (fun e => g2 (by rw [e]; exact hD.2 b _ eb))]
      exact hR.2.1.2.1 q g1 g2, fun q hq => by
      rcases List.mem_append.mp hq with h | h
      · exact hR.2.1.2.2 q h
      · obtain ⟨z, -, hz⟩ := List.mem_map.mp h
        rw [← hz]
        exact hD.2 b _ eb⟩ (hz1.trans hR.2.2)) _ hheap X'
  exact ⟨t, step t a1, b1⟩
end O
