/-! Codes read or fixed, by the class. -/
def pad (k : Nat) (xs : List Nat) : List Nat := xs ++ List.replicate (k - xs.length) 0
section Pd
variable {xs : List Nat} {k : Nat}
theorem pad_len (h : xs.length ≤ k) : (pad k xs).length = k := by unfold pad; rw [List.length_append, List.length_replicate]; omega
theorem pad_C (l : Nat) : kC (pad k xs) l = kC xs l := by
  unfold kC pad
  by_cases h : l = 0
  · rw [if_pos h, if_pos h]
  · rw [if_neg h, if_neg h, List.count_append, List.count_replicate, if_neg (by simp; omega), Nat.add_zero]
theorem pad_F : ∀ l, kF (pad k xs) l = kF xs l
  | 0 => rfl
  | l + 1 => by
    show 2 * (kF (pad k xs) l + kC (pad k xs) l) = 2 * (kF xs l + kC xs l)
    rw [pad_F l, pad_C]
theorem pad_B : ∀ l, kB (pad k xs) l = kB xs l
  | 0 => rfl
  | l + 1 => by
    show kB (pad k xs) l + kC (pad k xs) l = kB xs l + kC xs l
    rw [pad_B l, pad_C]
theorem pad_S : ∀ l, kS (pad k xs) l = kS xs l
  | 0 => rfl
  | l + 1 => by
    show kS (pad k xs) l + kC (pad k xs) (l + 1) * 2 ^ (14 - l) = kS xs l + kC xs (l + 1) * 2 ^ (14 - l)
    rw [pad_S l, pad_C]
theorem pad_g (j : Nat) : (pad k xs).getD j 0 = if j < xs.length then xs.getD j 0 else 0 := by
  unfold pad
  rw [List.getD_eq_getElem?_getD, List.getD_eq_getElem?_getD]
  by_cases h : j < xs.length
  · rw [if_pos h, List.getElem?_append_left h]
  · rw [if_neg h, List.getElem?_append_right (by omega), List.getElem?_replicate]
    split <;> rfl
theorem pad_15 (h : ∀ l ∈ xs, l ≤ 15) : ∀ l ∈ pad k xs, l ≤ 15 := by
  intro l hl
  unfold pad at hl
  rcases List.mem_append.mp hl with q | q
  · exact h l q
  · rw [List.eq_of_mem_replicate q]; decide
theorem CDt_pad {A : yA} {c : Nat} (h : CDt A c xs) : CDt A c (pad k xs) := by
  refine ⟨fun l a b => by rw [pad_C]; exact h.1 l a b, ?_⟩
  intro j hj h0
  rw [pad_g] at h0 ⊢
  by_cases hx : j < xs.length
  · rw [if_pos hx] at h0 ⊢
    have e : kR (pad k xs) j = kR xs j := by
      unfold kR
      rw [pad_g, if_pos hx]
      unfold pad
      rw [List.take_append_of_le_length (by omega)]
    rw [e, pad_B]
    exact h.2 j hx h0
  · rw [if_neg hx] at h0
    omega
end Pd
def ordN : List Nat := [16, 17, 18, 0, 8, 7, 9, 6, 10, 5, 11, 4, 12, 3, 13, 2, 14, 1, 15]
def posN : List Nat := [3, 17, 15, 13, 11, 9, 7, 5, 4, 6, 8, 10, 12, 14, 16, 18, 0, 1, 2]
theorem ord_pos : ∀ j : Fin 19, ordN.getD (posN.getD j.val 0) 0 = j.val ∧ posN.getD j.val 0 < 19 := by decide
theorem ord_lt : ∀ j : Fin 19, ordN.getD j.val 0 < 19 ∧ posN.getD (ordN.getD j.val 0) 0 = j.val := by decide
theorem ord_get : ∀ j : Fin 19, ordget (nI j.val) = some (nI (ordN.getD j.val 0)) := by decide
theorem mord_get : ∀ j : Fin 19, mOrd[j.val]? = some (nI (ordN.getD j.val 0)) := by decide
def vvS (C : List Int32) (p t i : Nat) : Nat := if i < t + 4 then bvS C (p + 3 * i) 3 else 0
def clS (C : List Int32) (p t : Nat) : List Nat := (List.range 19).map fun sy => vvS C p t (posN.getD sy 0)
theorem clS_len {C : List Int32} {p t : Nat} : (clS C p t).length = 19 := by unfold clS; rw [List.length_map, List.length_range]
theorem clS_g {C : List Int32} {p t j : Nat} (h : j < 19) : (clS C p t).getD j 0 = vvS C p t (posN.getD j 0) := by
  rw [List.getD_eq_getElem?_getD]
  unfold clS
  rw [List.getElem?_map, List.getElem?_range h]
  rfl
theorem vvS_lt {C : List Int32} {p t i : Nat} : vvS C p t i < 8 := by
  unfold vvS
  split
  · exact bvS_lt C _ 3
  · decide
theorem clS_15 {C : List Int32} {p t : Nat} : ∀ l ∈ clS C p t, l ≤ 15 := by
  intro l hl
  unfold clS at hl
  obtain ⟨x, -, rfl⟩ := List.mem_map.mp hl
  have := vvS_lt (C := C) (p := p) (t := t) (i := posN.getD x 0)
  omega
def xR (sy : Nat) : Nat := if sy < 16 then 0 else if sy = 16 then 2 else if sy = 17 then 3 else 7
def tR (sy : Nat) : Nat := if sy < 16 then 1 else if sy = 18 then 11 else 3
def vR (sy : Nat) (D : List Nat) : Nat := if sy < 16 then sy else if sy = 16 then D.getD (D.length - 1) 0 else 0
def rlS (cl : List Nat) (C : List Int32) (n : Nat) : Nat → Nat → List Nat → Option (List Nat × Nat)
  | 0, _, _ => none
  | m + 1, p, D => if n ≤ D.length then some (D, p) else match symS cl C p with
    | none => none
    | some (sy, p1) => if sy = 16 ∧ D.length = 0 then none else match tkS C p1 (xR sy) with
      | none => none
      | some (u, p2) => if D.length + (u + tR sy) ≤ n then rlS cl C n m p2 (D ++ List.replicate (u + tR sy) (vR sy D)) else none
theorem xR_le (sy : Nat) : xR sy ≤ 7 := by unfold xR; split; omega; split; omega; split <;> omega
theorem tR_pos (sy : Nat) : 0 < tR sy ∧ tR sy ≤ 11 := by unfold tR; split; omega; split <;> omega
theorem vR_15 {sy : Nat} {D : List Nat} (hD : ∀ l ∈ D, l ≤ 15) : vR sy D ≤ 15 := by
  unfold vR
  split
  · omega
  · split
    · rw [List.getD_eq_getElem?_getD]
      cases e : D[D.length - 1]? with
      | none => exact Nat.zero_le _
      | some x => exact hD x (List.mem_of_getElem? e)
    · omega
theorem rlS_ok {cl : List Nat} {C : List Int32} {n : Nat} : ∀ {m p q : Nat} {D D2 : List Nat}, rlS cl C n m p D = some (D2, q) → D.length ≤ n → p ≤ 8 * C.length → (∀ l ∈ D, l ≤ 15) → D2.length = n ∧ p ≤ q ∧ q ≤ 8 * C.length ∧ ∀ l ∈ D2, l ≤ 15
  | 0, _, _, _, _, h, _, _, _ => by cases h
  | m + 1, p, q, D, D2, h, hn, hp, h15 => by
    unfold rlS at h
    split at h
    · cases h; exact ⟨by omega, Nat.le_refl _, hp, h15⟩
    · split at h
      · cases h
      · rename_i sy p1 h1
        split at h
        · cases h
        · split at h
          · cases h
          · rename_i u p2 h2
            split at h
            · rename_i hc
              have e1 := symS_lt h1
              have e2 := tkS_lt h2
              have := rlS_ok h (by rw [List.length_append, List.length_replicate]; exact hc) e2.2.2 (by
                intro l hl
                rcases List.mem_append.mp hl with q | q
                · exact h15 l q
                · rw [List.eq_of_mem_replicate q]; exact vR_15 h15)
              exact ⟨this.1, by omega, this.2.2⟩
            · cases h
/-- the rest, behind the three numbers -/
def restS (C : List Int32) (a b t p : Nat) : Option (List Nat × List Nat × Nat) :=
  if p + 3 * (t + 4) ≤ 8 * C.length ∧ kS (clS C p t) 15 ≤ 32768 then (match rlS (clS C p t) C (a + 257 + (b + 1)) 400 (p + 3 * (t + 4)) [] with
    | none => none
    | some (D, q) => if kS (pad 288 (D.take (a + 257))) 15 ≤ 32768 ∧ kS (pad 32 (D.drop (a + 257))) 15 ≤ 32768 then some (pad 288 (D.take (a + 257)), pad 32 (D.drop (a + 257)), q) else none) else none
def rcS (C : List Int32) (p : Nat) : Option (List Nat × List Nat × Nat) := match tkS C p 5 with
  | none => none
  | some (a, p1) => (match tkS C p1 5 with
    | none => none
    | some (b, p2) => (match tkS C p2 4 with
      | none => none
      | some (t, p3) => restS C a b t p3))
def fL1 : List Nat := (List.range 288).map fun s => if s < 144 then 8 else if s < 256 then 9 else if s < 280 then 7 else 8
def fL2 : List Nat := List.replicate 32 5
theorem fL1_S : kS fL1 15 ≤ 32768 := by decide +kernel
theorem fL2_S : kS fL2 15 ≤ 32768 := by decide +kernel
theorem fL1_len : fL1.length = 288 := by unfold fL1; rw [List.length_map, List.length_range]
theorem fL1_g {j : Nat} (h : j < 288) : fL1.getD j 0 = if j < 144 then 8 else if j < 256 then 9 else if j < 280 then 7 else 8 := by
  rw [List.getD_eq_getElem?_getD]
  unfold fL1
  rw [List.getElem?_map, List.getElem?_range h]
  rfl
theorem fL2_g {j : Nat} (h : j < 32) : fL2.getD j 0 = 5 := by
  rw [List.getD_eq_getElem?_getD]
  unfold fL2
  rw [List.getElem?_replicate, if_pos h]
  rfl
theorem fL1_15 : ∀ l ∈ fL1, l ≤ 15 := by decide +kernel
theorem fL2_15 : ∀ l ∈ fL2, l ≤ 15 := by decide +kernel
theorem restS_ok {C : List Int32} {a b t p q : Nat} {l1 l2 : List Nat} (ha : a < 32) (hb : b < 32) (h : restS C a b t p = some (l1, l2, q)) : l1.length = 288 ∧ l2.length = 32 ∧ (∀ l ∈ l1, l ≤ 15) ∧ (∀ l ∈ l2, l ≤ 15) ∧ p < q ∧ q ≤ 8 * C.length := by
  unfold restS at h
  split at h
  · rename_i hc
    split at h
    · cases h
    · rename_i D q' hD
      split at h
      · cases h
        have := rlS_ok hD (Nat.zero_le _) hc.1 (fun l hl => by cases hl)
        exact ⟨pad_len (by rw [List.length_take]; omega), pad_len (by rw [List.length_drop]; omega), pad_15 (fun l hl => this.2.2.2 l (List.mem_of_mem_take hl)), pad_15 (fun l hl => this.2.2.2 l (List.mem_of_mem_drop hl)), by omega, this.2.2.1⟩
      · cases h
  · cases h
theorem rcS_ok {C : List Int32} {p q : Nat} {l1 l2 : List Nat} (h : rcS C p = some (l1, l2, q)) : l1.length = 288 ∧ l2.length = 32 ∧ (∀ l ∈ l1, l ≤ 15) ∧ (∀ l ∈ l2, l ≤ 15) ∧ p < q ∧ q ≤ 8 * C.length := by
  unfold rcS at h
  split at h
  · cases h
  · rename_i a p1 h1
    split at h
    · cases h
    · rename_i b p2 h2
      split at h
      · cases h
      · rename_i t p3 h3
        have e1 := tkS_lt h1
        have e2 := tkS_lt h2
        have e3 := tkS_lt h3
        have := restS_ok e1.1 e2.1 h
        exact ⟨this.1, this.2.1, this.2.2.1, this.2.2.2.1, by omega, this.2.2.2.2.2⟩
/-- what building and filling codes leaves as it was -/
def cA (A A2 : yA) : Prop := Sh A2 ∧ ∀ j, j < 11 ∨ 23 < j → A2 j = A j
section Cc
variable {J : yJ} {A : yA} {r a st : Nat} {Q : zW} {F p : Nat} {C O : List Int32}
theorem cA.rf (hS : Sh A) : cA A A := ⟨hS, fun _ _ => rfl⟩
theorem cA.tr {A1 A2 : yA} (h1 : cA A A1) (h2 : cA A1 A2) : cA A A2 := ⟨h2.1, fun j hj => (h2.2 j hj).trans (h1.2 j hj)⟩
theorem cA.fr {A2 : yA} (h : cA A A2) : cfr J A J A2 := ⟨h.1, fun _ _ _ => rfl, fun j hj => h.2 j (by omega)⟩
theorem cA.src {A2 : yA} (h : cA A A2) (hs : Src J A r a st C) : Src J A2 r a st C := hs.eq rfl (h.2 a (by have := hs.2.1; omega))
theorem cA.of3 {A2 : yA} {c : Nat} (hc : isC c) (h : fr3 A A2 c) : cA A A2 := by
  have := C_a hc
  exact ⟨h.1, fun j hj => h.2 j (by omega) (by omega) (by omega)⟩
theorem cA.ud23 (hS : Sh A) {xs : List Int32} (h : xs.length = (A 23).length) : cA A (ud A 23 xs) := ⟨hS.ud h, fun j hj => ud_n (by omega)⟩
theorem cFl.cA {A2 : yA} {f : Option (Int32 × zW)} (h : cA A A2) (h2 : cFl J A2 r Q f) : cFl J A r Q f := h2.tr h.fr
theorem gw_23 (i : Nat) (hi : i < 320) (hS : Sh A) (x : Int32) : aset (gwo J A r st Q p O) 23 (nI i) x = some (gwo J (ud A 23 ((A 23).set i x)) r st Q p O) := by
  have h23 : (A 23).length = 320 := hS 23
  unfold gwo uw
  rw [as_ (by decide) (by rw [ud_n (by decide)]; omega) (by rw [ud_n (by decide)]; omega), ud_n (by decide), ud_n (by decide), ud_comm (show (8 : Nat) ≠ 23 by decide)]
theorem gw_build {ls : List Nat} {c fr : Nat} (hF : 20000 ≤ F) (hc : isC c) (hn : ls.length ≤ aL (c + 2)) (h15 : ∀ l ∈ ls, l ≤ 15) (hfr : fr + ls.length ≤ 320) (hS : Sh A) (hO : O.length ≤ 200) (hl : hL23 A fr ls) : ∃ b A2, f_Code_build F c 23 (nI fr) (nI ls.length) (gwo J A r st Q p O) = some (b, gwo J A2 r st Q p O) ∧ fr3 A A2 c ∧ bOK b A2 c ls := by
  have hca := C_a hc
  obtain ⟨b, A', e, f1, f2⟩ := c_build (F := F) (J := pj (pj (pj J 7 1 (nI O.length)) 7 2 0) 10 6 (nI (8 * st + p))) (s := r) (Q := Q) (fr := fr) hF hc hn h15 hfr (gw_S hS hO) (fun k hk => by rw [ud_n (by decide)]; exact hl k hk)
  have e8 : A' 8 = wr (A 8) 0 O := by rw [f1.2 8 (by omega) (by omega) (by omega), ud_s]
  have h8 : (A 8).length = 200 := hS 8
  refine ⟨b, ud A' 8 (A 8), ?_, ⟨f1.1.ud (by rw [e8, wr_len (by omega)]), ?_⟩, ?_⟩
  · unfold gwo uw
    rw [ud_s, ud_ud, ud_id e8]
    exact e
  · intro j a b d
    by_cases q : j = 8
    · subst q; rw [ud_s]
    · rw [ud_n q, f1.2 j a b d, ud_n q]
  · unfold bOK CDt at f2 ⊢
    rw [ud_n (by omega), ud_n (by omega)]
    exact f2
/-- buildCodes -/
theorem c_codes {D : List Nat} {n1 n2 : Nat} (hF : 20000 ≤ F) (hS : Sh A) (hO : O.length ≤ 200) (hD : D.length = n1 + n2) (h1 : n1 ≤ 288) (h2 : n2 ≤ 32) (h15 : ∀ l ∈ D, l ≤ 15) (hl : hL23 A 0 D) : (kS (pad 288 (D.take n1)) 15 ≤ 32768 ∧ kS (pad 32 (D.drop n1)) 15 ≤ 32768 → ∃ A2, f_Unpacker_buildCodes F 10 (nI n1) (nI n2) (gwo J A r st Q p O) = some (1, gwo J A2 r st Q p O) ∧ cA A A2 ∧ CDt A2 15 (pad 288 (D.take n1)) ∧ CDt A2 19 (pad 32 (D.drop n1))) ∧ (¬ (kS (pad 288 (D.take n1)) 15 ≤ 32768 ∧ kS (pad 32 (D.drop n1)) 15 ≤ 32768) → cFl J A r Q (f_Unpacker_buildCodes F 10 (nI n1) (nI n2) (gwo J A r st Q p O))) := by
  have hlt : (D.take n1).length = n1 := by rw [List.length_take]; omega
  have hld : (D.drop n1).length = n2 := by rw [List.length_drop]; omega
  obtain ⟨b, A1, e1, f1, g1⟩ := gw_build (F := F) (J := J) (r := r) (st := st) (Q := Q) (p := p) (ls := D.take n1) (c := 15) (fr := 0) hF (Or.inr (Or.inl rfl)) (by show _ ≤ 288; omega) (fun l q => h15 l (List.mem_of_mem_take q)) (by omega) hS hO (by
    intro k hk
    rw [hl k (by omega), List.getD_eq_getElem?_getD, List.getD_eq_getElem?_getD, List.getElem?_take, if_pos (by omega)])
  obtain ⟨b2, A2, e2, f2, g2⟩ := gw_build (F := F) (J := J) (r := r) (st := st) (Q := Q) (p := p) (ls := D.drop n1) (c := 19) (fr := n1) hF (Or.inr (Or.inr rfl)) (by show _ ≤ 32; omega) (fun l q => h15 l (List.mem_of_mem_drop q)) (by omega) f1.1 hO (by
    intro k hk
    rw [f1.2 23 (by decide) (by decide) (by decide)]
    have := hl (n1 + k) (by omega)
    rw [Nat.zero_add] at this
    rw [this, List.getD_eq_getElem?_getD, List.getD_eq_getElem?_getD, List.getElem?_drop])
  have c1 := cA.of3 (Or.inr (Or.inl rfl)) f1
  have c2 := cA.of3 (Or.inr (Or.inr rfl)) f2
  rw [hlt] at e1
  rw [hld] at e2
  unfold f_Unpacker_buildCodes b_Unpacker_buildCodes_0 b_Unpacker_buildCodes_36
  simp only [gw_g, Option.bind_some]
  rw [show (nI 0 : Int32) = 0 from rfl] at e1
  rw [show zobj (gwo J A r st Q p O) 15 4 = some _ from rfl, Option.bind_some, e1, Option.bind_some, pad_S, pad_S]
  simp only []
  rcases g1 with ⟨q1, q2, q3⟩ | ⟨q1, q2⟩
  · rw [q1, if_neg (show ¬ (1 : Int32) = 0 by decide)]
    simp only [gw_g, Option.bind_some]
    rw [show zobj (gwo J A1 r st Q p O) 19 4 = some _ from rfl, Option.bind_some, e2, Option.bind_some]
    simp only []
    rcases g2 with ⟨t1, t2, t3⟩ | ⟨t1, t2⟩
    · rw [t1, if_neg (show ¬ (1 : Int32) = 0 by decide)]
      refine ⟨fun _ => ⟨A2, rfl, c1.tr c2, CDt_pad ?_, CDt_pad t3⟩, fun z => absurd ⟨q2, t2⟩ z⟩
      unfold CDt at q3 ⊢
      rw [f2.2 16 (by decide) (by decide) (by decide), f2.2 17 (by decide) (by decide) (by decide)]
      exact q3
    · rw [t1, if_pos rfl]
      exact ⟨fun z => absurd z.2 t2, fun _ => cFl.cA (c1.tr c2) (gw_fail c2.1 hO)⟩
  · rw [q1, if_pos rfl]
    exact ⟨fun z => absurd z.1 q2, fun _ => cFl.cA c1 (gw_fail c1.1 hO)⟩
theorem c_fx_61 (hF : 20000 ≤ F) (hO : O.length ≤ 200) : ∀ (m k : Nat) (A : yA), Sh A → k ≤ 32 → 32 - k < m → hL23 A 0 fL1 → (∀ j, j < k → (A 23)[288 + j]? = some (nI 5)) → ∃ A2, l_Unpacker_fixedCodes_61 F m 10 (nI k) (gwo J A r st Q p O) = some (1, gwo J A2 r st Q p O) ∧ cA A A2 ∧ CDt A2 15 fL1 ∧ CDt A2 19 fL2 := by
  intro m
  induction m with
  | zero => intro k A _ _ h; omega
  | succ m ih =>
    intro k A hS hk hm h1 h2
    have h23 : (A 23).length = 320 := hS 23
    show ∃ A2, b_Unpacker_fixedCodes_61 F (l_Unpacker_fixedCodes_61 F m) 10 (nI k) (gwo J A r st Q p O) = _ ∧ _
    unfold b_Unpacker_fixedCodes_61
    by_cases hlt : k < 32
    · rw [if_neg (show ¬ (32 : Int32) ≤ nI k from nI_ge (b := 32) hlt (by decide))]
      simp only [gw_g, Option.bind_some]
      rw [show (288 : Int32) = nI 288 from rfl, nI_add, gw_23 _ (by omega) hS, Option.bind_some, nI_1]
      obtain ⟨A2, e, f1, f2, f3⟩ := ih (k + 1) (ud A 23 ((A 23).set (288 + k) 5)) (hS.ud List.length_set) (by omega) (by omega) (by
        intro j hj
        rw [fL1_len] at hj
        rw [ud_s, List.getElem?_set_ne (by omega)]
        exact h1 j (by rw [fL1_len]; exact hj)) (by
        intro j hj
        rw [ud_s]
        by_cases q : j = k
        · subst q; rw [List.getElem?_set_self (by omega)]; rfl
        · rw [List.getElem?_set_ne (by omega)]; exact h2 j (by omega))
      exact ⟨A2, e, (cA.ud23 hS List.length_set).tr f1, f2, f3⟩
    · have ek : k = 32 := by omega
      subst ek
      rw [if_pos (by decide), gw_o]
      have hD : (fL1 ++ fL2).length = 288 + 32 := by rw [List.length_append, fL1_len]; rfl
      have hc := (c_codes (F := F) (J := J) (A := A) (r := r) (st := st) (Q := Q) (p := p) (O := O) (D := fL1 ++ fL2) (n1 := 288) (n2 := 32) hF hS hO hD (Nat.le_refl _) (Nat.le_refl _) (by
        intro l hl
        rcases List.mem_append.mp hl with q | q
        · exact fL1_15 l q
        · exact fL2_15 l q) (by
        intro k hk
        rw [Nat.zero_add]
        by_cases q : k < 288
        · have := h1 k (by rw [fL1_len]; exact q)
          rw [Nat.zero_add] at this
          rw [this, List.getD_eq_getElem?_getD, List.getD_eq_getElem?_getD, List.getElem?_append_left (by rw [fL1_len]; exact q)]
        · have := h2 (k - 288) (by omega)
          rw [show 288 + (k - 288) = k by omega] at this
          rw [this, List.getD_eq_getElem?_getD, List.getElem?_append_right (by rw [fL1_len]; omega), fL1_len, ← List.getD_eq_getElem?_getD, fL2_g (by omega)])).1
      have ht : (fL1 ++ fL2).take 288 = fL1 := by rw [List.take_append_of_le_length (by rw [fL1_len]; exact Nat.le_refl _), List.take_of_length_le (by rw [fL1_len]; exact Nat.le_refl _)]
      have hd : (fL1 ++ fL2).drop 288 = fL2 := by
        rw [List.drop_append, List.drop_of_length_le (by rw [fL1_len]; exact Nat.le_refl _), fL1_len]
        rfl
      have hp1 : pad 288 fL1 = fL1 := by unfold pad; rw [fL1_len]; exact List.append_nil _
      have hp2 : pad 32 fL2 = fL2 := by unfold pad; exact List.append_nil _
      rw [ht, hd, hp1, hp2] at hc
      obtain ⟨A2, e, f1, f2, f3⟩ := hc ⟨fL1_S, fL2_S⟩
      rw [show f_Unpacker_buildCodes F 10 288 32 (gwo J A r st Q p O) = _ from e, Option.bind_some]
      simp only []
      rw [if_pos (Or.inr trivial)]
      exact ⟨A2, rfl, f1, f2, f3⟩
theorem c_fx_2 (hF : 20000 ≤ F) (hO : O.length ≤ 200) : ∀ (m k : Nat) (A : yA), Sh A → k ≤ 288 → 288 - k < m → (∀ j, j < k → (A 23)[j]? = some (nI (fL1.getD j 0))) → ∃ A2, l_Unpacker_fixedCodes_2 F m 10 (nI k) (gwo J A r st Q p O) = some (1, gwo J A2 r st Q p O) ∧ cA A A2 ∧ CDt A2 15 fL1 ∧ CDt A2 19 fL2 := by
  intro m
  induction m with
  | zero => intro k A _ _ h; omega
  | succ m ih =>
    intro k A hS hk hm h1
    have h23 : (A 23).length = 320 := hS 23
    show ∃ A2, b_Unpacker_fixedCodes_2 F (l_Unpacker_fixedCodes_2 F m) 10 (nI k) (gwo J A r st Q p O) = _ ∧ _
    unfold b_Unpacker_fixedCodes_2 b_Unpacker_fixedCodes_52
    by_cases hlt : k < 288
    · rw [if_neg (show ¬ (288 : Int32) ≤ nI k from nI_ge (b := 288) hlt (by decide))]
      simp only [gw_g, Option.bind_some]
      have go : ∃ A2, ((aset (gwo J A r st Q p O) 23 (nI k) (nI (fL1.getD k 0))).bind fun w52 => l_Unpacker_fixedCodes_2 F m 10 (nI k + 1) w52) = some (1, gwo J A2 r st Q p O) ∧ cA A A2 ∧ CDt A2 15 fL1 ∧ CDt A2 19 fL2 := by
        rw [gw_23 _ (by omega) hS, Option.bind_some, nI_1]
        obtain ⟨A2, e, f1, f2, f3⟩ := ih (k + 1) (ud A 23 ((A 23).set k (nI (fL1.getD k 0)))) (hS.ud List.length_set) (by omega) (by omega) (by
          intro j hj
          rw [ud_s]
          by_cases q : j = k
          · subst q; rw [List.getElem?_set_self (by omega)]
          · rw [List.getElem?_set_ne (by omega)]; exact h1 j (by omega))
        exact ⟨A2, e, (cA.ud23 hS List.length_set).tr f1, f2, f3⟩
      rw [fL1_g hlt] at go
      by_cases c1 : k < 144
      · rw [if_neg (show ¬ (144 : Int32) ≤ nI k from nI_ge (b := 144) c1 (by decide))]
        rw [if_pos c1] at go
        exact go
      · rw [if_pos (show (144 : Int32) ≤ nI k from nI_le (a := 144) (by omega) (by omega))]
        rw [if_neg c1] at go
        by_cases c2 : k < 256
        · rw [if_neg (show ¬ (256 : Int32) ≤ nI k from nI_ge (b := 256) c2 (by decide))]
          rw [if_pos c2] at go
          exact go
        · rw [if_pos (show (256 : Int32) ≤ nI k from nI_le (a := 256) (by omega) (by omega))]
          rw [if_neg c2] at go
          by_cases c3 : k < 280
          · rw [if_neg (show ¬ (280 : Int32) ≤ nI k from nI_ge (b := 280) c3 (by decide))]
            rw [if_pos c3] at go
            exact go
          · rw [if_pos (show (280 : Int32) ≤ nI k from nI_le (a := 280) (by omega) (by omega))]
            rw [if_neg c3] at go
            exact go
    · have ek : k = 288 := by omega
      subst ek
      rw [if_pos (by decide)]
      exact c_fx_61 hF hO F 0 A hS (by decide) (by omega) (fun j hj => by rw [fL1_len] at hj; rw [Nat.zero_add]; exact h1 j hj) (fun j hj => by omega)
theorem c_fixed (hF : 20000 ≤ F) (hS : Sh A) (hO : O.length ≤ 200) : ∃ A2, f_Unpacker_fixedCodes F 10 (gwo J A r st Q p O) = some (1, gwo J A2 r st Q p O) ∧ cA A A2 ∧ CDt A2 15 fL1 ∧ CDt A2 19 fL2 := c_fx_2 hF hO F 0 A hS (by decide) (by omega) (fun j hj => by omega)
theorem c_rl_165 (hO : O.length ≤ 200) {n d t v step : Nat} (hd : d + t ≤ n) (hn : n ≤ 320) {K4 : Nat → Int32 → Int32 → Int32 → zW → Option (Int32 × zW)} : ∀ (m k : Nat) (A : yA), Sh A → k ≤ t → t - k < m → ∃ xs, l_Unpacker_readLengths_165 F K4 m 10 (nI n) (nI d) (nI step) (nI v) (nI t) (nI k) (gwo J A r st Q p O) = K4 10 (nI n) (nI (d + t)) (nI (step + 1)) (gwo J (ud A 23 xs) r st Q p O) ∧ xs.length = 320 ∧ (∀ j, d + k ≤ j → j < d + t → xs[j]? = some (nI v)) ∧ ∀ j, j < d + k → xs[j]? = (A 23)[j]? := by
  intro m
  induction m with
  | zero => intro k A _ _ h; omega
  | succ m ih =>
    intro k A hS hk hm
    have h23 : (A 23).length = 320 := hS 23
    show ∃ xs, b_Unpacker_readLengths_165 F K4 (l_Unpacker_readLengths_165 F K4 m) 10 (nI n) (nI d) (nI step) (nI v) (nI t) (nI k) (gwo J A r st Q p O) = _ ∧ _
    unfold b_Unpacker_readLengths_165
    by_cases hlt : k < t
    · rw [if_neg (nI_ge hlt (by omega))]
      simp only [gw_g, Option.bind_some]
      rw [nI_add, gw_23 _ (by omega) hS, Option.bind_some, nI_1]
      obtain ⟨xs, e, f1, f2, f3⟩ := ih (k + 1) (ud A 23 ((A 23).set (d + k) (nI v))) (hS.ud List.length_set) (by omega) (by omega)
      rw [ud_ud] at e
      refine ⟨xs, e, f1, ?_, ?_⟩
      · intro j h1 h2
        by_cases q : j = d + k
        · subst q
          rw [f3 _ (by omega), ud_s, List.getElem?_set_self (by omega)]
        · exact f2 j (by omega) h2
      · intro j hj
        rw [f3 j (by omega), ud_s, List.getElem?_set_ne (by omega)]
    · have ek : k = t := by omega
      subst ek
      rw [if_pos (nI_le (by omega) (by omega)), nI_add, nI_1]
      exact ⟨A 23, by rw [ud_id rfl], h23, fun j h1 h2 => by omega, fun j _ => rfl⟩
/-- readLengths -/
theorem c_rl_4 {cl : List Nat} {n : Nat} (hF : 20000 ≤ F) (hO : O.length ≤ 200) (hn : n ≤ 320) (hcl : cl.length = 19) : ∀ (m q step p : Nat) (A : yA) (D : List Nat), Sh A → Src J A r a st C → CDt A 11 cl → hL23 A 0 D → D.length ≤ n → n - D.length < m → step ≤ D.length → n - step < q → p ≤ 8 * C.length → (∀ l ∈ D, l ≤ 15) → (∀ D2 p2, rlS cl C n m p D = some (D2, p2) → ∃ A2, l_Unpacker_readLengths_4 F q 10 (nI n) (nI D.length) (nI step) (gwo J A r st Q p O) = some (1, gwo J A2 r st Q p2 O) ∧ cA A A2 ∧ hL23 A2 0 D2) ∧ (rlS cl C n m p D = none → cFl J A r Q (l_Unpacker_readLengths_4 F q 10 (nI n) (nI D.length) (nI step) (gwo J A r st Q p O))) := by
  intro m
  induction m with
  | zero => intro q step p A D _ _ _ _ _ h; omega
  | succ m ih =>
    intro q step p A D hS hsrc hD hl hDn hm hst hq hp h15
    obtain ⟨q, rfl⟩ : ∃ q', q = q' + 1 := ⟨q - 1, by omega⟩
    have ef : l_Unpacker_readLengths_4 F (q + 1) 10 (nI n) (nI D.length) (nI step) (gwo J A r st Q p O) = b_Unpacker_readLengths_4 F (l_Unpacker_readLengths_4 F q) 10 (nI n) (nI D.length) (nI step) (gwo J A r st Q p O) := rfl
    rw [ef]
    unfold rlS b_Unpacker_readLengths_4 b_Unpacker_readLengths_41
    by_cases hfin : n ≤ D.length
    · have e1 : D.length = n := by omega
      have e200 : b_Unpacker_readLengths_200 F (nI n) (nI D.length) (gwo J A r st Q p O) = some (1, gwo J A r st Q p O) := by
        unfold b_Unpacker_readLengths_200
        rw [e1, if_pos rfl]
      rw [if_pos hfin, if_pos (nI_le hfin (by omega)), e200, ite_self]
      exact ⟨fun D2 p2 e => (by cases e; exact ⟨A, rfl, cA.rf hS, hl⟩), fun e => (by cases e)⟩
    · rw [if_neg hfin, if_neg (nI_ge (by omega) (by omega)), if_neg (nI_ge (by omega) (by omega))]
      simp only [gw_g, Option.bind_some, gw_o]
      have hsy := gw_sym (F := F) (Q := Q) (O := O) hF hsrc (Or.inl rfl) hD hS (by omega) hp hO
      cases es : symS cl C p with
      | none =>
        obtain ⟨p1, hp1, e⟩ := hsy.2 es
        refine ⟨fun D2 p2 e => (by cases e), fun _ => ?_⟩
        rw [e, Option.bind_some]
        simp only []
        rw [if_pos trivial]
        exact gw_fail hS hO
      | some x =>
        obtain ⟨sy, p1⟩ := x
        have t1 := symS_lt es
        rw [hsy.1 sy p1 es, Option.bind_some]
        simp only []
        rw [if_neg (nI_neg1 (by omega))]
        by_cases c1 : sy = 16 ∧ D.length = 0
        · rw [if_pos c1, if_pos (show nI sy = (16 : Int32) by rw [c1.1]; rfl), if_pos (show nI D.length = 0 by rw [c1.2]; rfl)]
          exact ⟨fun D2 p2 e => (by cases e), fun _ => gw_fail hS hO⟩
        · rw [if_neg c1]
          have tk : ∀ (x : Nat), x ≤ 16 → f_Unpacker_takeBits F 10 (nI x) (gwo J A r st Q p1 O) = match tkS C p1 x with
            | some (v, q) => some (nI v, gwo J A r st Q q O)
            | none => some (-1, gwo J A r st Q (8 * C.length) O) := fun x hx => gw_bits hF hsrc hx t1.2.2
          have hxR := xR_le sy
          have htR := tR_pos sy
          have hvR := vR_15 (sy := sy) h15
          -- the common tail
          have tail : (∀ D2 p2, (match tkS C p1 (xR sy) with
              | none => none
              | some (u, p2) => if D.length + (u + tR sy) ≤ n then rlS cl C n m p2 (D ++ List.replicate (u + tR sy) (vR sy D)) else none) = some (D2, p2) → ∃ A2, ((f_Unpacker_takeBits F 10 (nI (xR sy)) (gwo J A r st Q p1 O)).bind fun r112 => b_Unpacker_readLengths_143 F (l_Unpacker_readLengths_4 F q) 10 (nI n) (nI D.length) (nI step) (nI (vR sy D)) r112.1 r112.1 (nI (tR sy)) r112.2) = some (1, gwo J A2 r st Q p2 O) ∧ cA A A2 ∧ hL23 A2 0 D2) ∧ ((match tkS C p1 (xR sy) with
              | none => none
              | some (u, p2) => if D.length + (u + tR sy) ≤ n then rlS cl C n m p2 (D ++ List.replicate (u + tR sy) (vR sy D)) else none) = none → cFl J A r Q ((f_Unpacker_takeBits F 10 (nI (xR sy)) (gwo J A r st Q p1 O)).bind fun r112 => b_Unpacker_readLengths_143 F (l_Unpacker_readLengths_4 F q) 10 (nI n) (nI D.length) (nI step) (nI (vR sy D)) r112.1 r112.1 (nI (tR sy)) r112.2)) := by
            rw [tk _ (by omega)]
            unfold b_Unpacker_readLengths_143 b_Unpacker_readLengths_160
            cases e1 : tkS C p1 (xR sy) with
            | none =>
              refine ⟨fun D2 p2 e => (by cases e), fun _ => ?_⟩
              simp only [Option.bind_some]
              rw [if_pos trivial]
              exact gw_fail hS hO
            | some y =>
              obtain ⟨u, p2⟩ := y
              have t2 := tkS_lt e1
              have hu : u < 2 ^ 7 := Nat.lt_of_lt_of_le t2.1 (Nat.pow_le_pow_right (by decide) hxR)
              simp only [Option.bind_some]
              rw [if_neg (nI_neg1 (by omega)), nI_add, pk_sub (by omega)]
              by_cases c2 : D.length + (u + tR sy) ≤ n
              · rw [if_pos c2, if_pos (nI_le (by omega) (by omega))]
                obtain ⟨xs, e, f1, f2, f3⟩ := c_rl_165 (F := F) (J := J) (r := r) (st := st) (Q := Q) (p := p2) (O := O) hO (n := n) (d := D.length) (t := u + tR sy) (v := vR sy D) (step := step) c2 hn (K4 := l_Unpacker_readLengths_4 F q) F 0 A hS (Nat.zero_le _) (by omega)
                rw [show (0 : Int32) = nI 0 from rfl, e]
                have h23 : (A 23).length = 320 := hS 23
                have hcA := cA.ud23 (xs := xs) hS (by omega)
                have hD' : CDt (ud A 23 xs) 11 cl := by
                  unfold CDt
                  rw [ud_n (by decide), ud_n (by decide)]
                  exact hD
                have hl' : hL23 (ud A 23 xs) 0 (D ++ List.replicate (u + tR sy) (vR sy D)) := by
                  intro j hj
                  rw [List.length_append, List.length_replicate] at hj
                  rw [ud_s, Nat.zero_add, List.getD_eq_getElem?_getD]
                  by_cases z : j < D.length
                  · have := hl j z
                    rw [Nat.zero_add] at this
                    rw [f3 j (by omega), this, List.getElem?_append_left z, ← List.getD_eq_getElem?_getD]
                  · rw [f2 j (by omega) (by omega), List.getElem?_append_right (by omega), List.getElem?_replicate, if_pos (by omega)]
                    rfl
                have hlen : (D ++ List.replicate (u + tR sy) (vR sy D)).length = D.length + (u + tR sy) := by rw [List.length_append, List.length_replicate]
                have := ih q (step + 1) p2 (ud A 23 xs) (D ++ List.replicate (u + tR sy) (vR sy D)) hcA.1 (hcA.src hsrc) hD' hl' (by omega) (by omega) (by omega) (by omega) t2.2.2 (by
                  intro l hl
                  rcases List.mem_append.mp hl with z | z
                  · exact h15 l z
                  · rw [List.eq_of_mem_replicate z]; exact hvR)
                rw [hlen] at this
                refine ⟨?_, fun z => cFl.cA hcA (this.2 z)⟩
                intro D2 p3 z
                obtain ⟨A2, q1, q2, q3⟩ := this.1 D2 p3 z
                exact ⟨A2, q1, hcA.tr q2, q3⟩
              · rw [if_neg c2, if_neg (nI_ge (by omega) (by omega))]
                exact ⟨fun D2 p2 e => (by cases e), fun _ => gw_fail hS hO⟩
          unfold b_Unpacker_readLengths_43 b_Unpacker_readLengths_74 b_Unpacker_readLengths_112
          simp only [gw_o]
          by_cases s16 : sy < 16
          · have n16 : ¬ nI sy = (16 : Int32) := fun z => by have := (nI_eq (b := 16) (by omega) (by decide)).mp z; omega
            have l16 : ¬ (16 : Int32) ≤ nI sy := nI_ge (b := 16) s16 (by decide)
            rw [if_neg n16, if_neg l16]
            simp only [if_neg l16]
            have x0 : xR sy = 0 := by unfold xR; rw [if_pos s16]
            have t0 : tR sy = 1 := by unfold tR; rw [if_pos s16]
            have v0 : vR sy D = sy := by unfold vR; rw [if_pos s16]
            rw [x0, t0, v0] at tail
            rw [x0, t0, v0]
            exact tail
          · have l16 : (16 : Int32) ≤ nI sy := nI_le (a := 16) (by omega) (by omega)
            by_cases e16 : sy = 16
            · have n16 : nI sy = (16 : Int32) := by rw [e16]; rfl
              have n18 : ¬ nI sy = (18 : Int32) := by rw [e16]; decide
              have hD0 : 0 < D.length := by omega
              rw [if_pos n16, if_neg (nI_ne0 hD0 (by omega)), if_pos l16, if_pos n16]
              simp only [gw_g, Option.bind_some, if_pos l16, if_pos n16, if_neg n18]
              have hg : aget (gwo J A r st Q p1 O) 23 (nI D.length - 1) = some (nI (D.getD (D.length - 1) 0)) := by
                rw [show (1 : Int32) = nI 1 from rfl, pk_sub hD0]
                refine ag_ (by decide) (by omega) ?_
                rw [ud_n (by decide)]
                have := hl (D.length - 1) (by omega)
                rw [Nat.zero_add] at this
                exact this
              rw [hg, Option.bind_some]
              have x0 : xR sy = 2 := by unfold xR; rw [if_neg s16, if_pos e16]
              have t0 : tR sy = 3 := by unfold tR; rw [if_neg s16, if_neg (by omega)]
              have v0 : vR sy D = D.getD (D.length - 1) 0 := by unfold vR; rw [if_neg s16, if_pos e16]
              rw [x0, t0, v0] at tail
              rw [x0, t0, v0]
              exact tail
            · have n16 : ¬ nI sy = (16 : Int32) := fun z => e16 ((nI_eq (b := 16) (by omega) (by decide)).mp z)
              rw [if_neg n16, if_pos l16, if_neg n16]
              simp only [if_pos l16, if_neg n16]
              have v0 : vR sy D = 0 := by unfold vR; rw [if_neg s16, if_neg e16]
              by_cases e17 : sy = 17
              · have n17 : nI sy = (17 : Int32) := by rw [e17]; rfl
                have n18 : ¬ nI sy = (18 : Int32) := by rw [e17]; decide
                simp only [if_pos n17, if_neg n18]
                have x0 : xR sy = 3 := by unfold xR; rw [if_neg s16, if_neg e16, if_pos e17]
                have t0 : tR sy = 3 := by unfold tR; rw [if_neg s16, if_neg (by omega)]
                rw [x0, t0, v0] at tail
                rw [x0, t0, v0]
                exact tail
              · have e18 : sy = 18 := by omega
                have n17 : ¬ nI sy = (17 : Int32) := by rw [e18]; decide
                have n18 : nI sy = (18 : Int32) := by rw [e18]; rfl
                simp only [if_neg n17, if_pos n18]
                have x0 : xR sy = 7 := by unfold xR; rw [if_neg s16, if_neg e16, if_neg e17]
                have t0 : tR sy = 11 := by unfold tR; rw [if_neg s16, if_pos e18]
                rw [x0, t0, v0] at tail
                rw [x0, t0, v0]
                exact tail
/-- readCodes, behind the three numbers -/
theorem c_rc_28 {na nb t p3 : Nat} (hF : 20000 ≤ F) (hO : O.length ≤ 200) (hna : na < 32) (hnb : nb < 32) (ht : t < 16) : ∀ (m i : Nat) (A : yA), Sh A → Src J A r a st C → i ≤ 19 → 19 - i < m → p3 + 3 * (min i (t + 4)) ≤ 8 * C.length → (∀ j, j < i → (A 23)[ordN.getD j 0]? = some (nI (vvS C p3 t j))) → (∀ l1 l2 q, restS C na nb t p3 = some (l1, l2, q) → ∃ A2, l_Unpacker_readCodes_28 F m 10 (nI na) (nI nb) (nI t) (nI i) (gwo J A r st Q (p3 + 3 * (min i (t + 4))) O) = some (1, gwo J A2 r st Q q O) ∧ cA A A2 ∧ CDt A2 15 l1 ∧ CDt A2 19 l2) ∧ (restS C na nb t p3 = none → cFl J A r Q (l_Unpacker_readCodes_28 F m 10 (nI na) (nI nb) (nI t) (nI i) (gwo J A r st Q (p3 + 3 * (min i (t + 4))) O))) := by
  intro m
  induction m with
  | zero => intro i A _ _ _ h; omega
  | succ m ih =>
    intro i A hS hsrc hi hm hp hv
    have h23 : (A 23).length = 320 := hS 23
    have ef : l_Unpacker_readCodes_28 F (m + 1) 10 (nI na) (nI nb) (nI t) (nI i) (gwo J A r st Q (p3 + 3 * (min i (t + 4))) O) = b_Unpacker_readCodes_28 F (l_Unpacker_readCodes_28 F m) 10 (nI na) (nI nb) (nI t) (nI i) (gwo J A r st Q (p3 + 3 * (min i (t + 4))) O) := rfl
    rw [ef]
    unfold b_Unpacker_readCodes_28 b_Unpacker_readCodes_54 b_Unpacker_readCodes_137
    by_cases hlt : i < 19
    · have ho : ordN.getD i 0 < 19 ∧ posN.getD (ordN.getD i 0) 0 = i := ord_lt ⟨i, hlt⟩
      rw [if_neg (show ¬ (19 : Int32) ≤ nI i from nI_ge (b := 19) hlt (by decide)), show (4 : Int32) = nI 4 from rfl, nI_add]
      have step : ∀ p', p' = p3 + 3 * (min (i + 1) (t + 4)) → p' ≤ 8 * C.length → (∀ l1 l2 q, restS C na nb t p3 = some (l1, l2, q) → ∃ A2, ((getR (gwo J A r st Q p' O) 10 5 4).bind fun x65 => (ordget (nI i)).bind fun x73 => (aset (gwo J A r st Q p' O) x65 x73 (nI (vvS C p3 t i))).bind fun w76 => l_Unpacker_readCodes_28 F m 10 (nI na) (nI nb) (nI t) (nI i + 1) w76) = some (1, gwo J A2 r st Q q O) ∧ cA A A2 ∧ CDt A2 15 l1 ∧ CDt A2 19 l2) ∧ (restS C na nb t p3 = none → cFl J A r Q ((getR (gwo J A r st Q p' O) 10 5 4).bind fun x65 => (ordget (nI i)).bind fun x73 => (aset (gwo J A r st Q p' O) x65 x73 (nI (vvS C p3 t i))).bind fun w76 => l_Unpacker_readCodes_28 F m 10 (nI na) (nI nb) (nI t) (nI i + 1) w76)) := by
        intro p' ep hp'
        subst ep
        simp only [gw_g, Option.bind_some]
        rw [show ordget (nI i) = some (nI (ordN.getD i 0)) from ord_get ⟨i, hlt⟩, Option.bind_some, gw_23 _ (by have := ho.1; omega) hS, Option.bind_some, nI_1]
        have hcA := cA.ud23 (A := A) (xs := (A 23).set (ordN.getD i 0) (nI (vvS C p3 t i))) hS List.length_set
        have := ih (i + 1) (ud A 23 ((A 23).set (ordN.getD i 0) (nI (vvS C p3 t i)))) hcA.1 (hcA.src hsrc) (by omega) (by omega) hp' (by
          intro j hj
          rw [ud_s]
          by_cases q : j = i
          · subst q; rw [List.getElem?_set_self (by have := ho.1; omega)]
          · rw [List.getElem?_set_ne]
            · exact hv j (by omega)
            · intro z
              have hj2 : ordN.getD j 0 < 19 ∧ posN.getD (ordN.getD j 0) 0 = j := ord_lt ⟨j, by omega⟩
              have e1 := ho.2
              have e2 := hj2.2
              rw [← z, e1] at e2
              exact q e2.symm)
        refine ⟨?_, fun z => cFl.cA hcA (this.2 z)⟩
        intro l1 l2 q z
        obtain ⟨A2, q1, q2, q3⟩ := this.1 l1 l2 q z
        exact ⟨A2, q1, hcA.tr q2, q3⟩
      by_cases c1 : i < t + 4
      · rw [if_neg (nI_ge c1 (by omega)), gw_o]
        have e3 := gw_bits (F := F) (Q := Q) (O := O) (n := 3) (p := p3 + 3 * (min i (t + 4))) hF hsrc (by decide) hp
        rw [show (nI 3 : Int32) = 3 from rfl] at e3
        rw [e3]
        have emin : min i (t + 4) = i := by omega
        have emin2 : min (i + 1) (t + 4) = i + 1 := by omega
        unfold tkS
        by_cases c2 : p3 + 3 * (min i (t + 4)) + 3 ≤ 8 * C.length
        · rw [if_pos c2]
          simp only [Option.bind_some]
          have hb := bvS_lt C (p3 + 3 * (min i (t + 4))) 3
          rw [if_neg (nI_neg1 (by omega))]
          have ev : vvS C p3 t i = bvS C (p3 + 3 * (min i (t + 4))) 3 := by unfold vvS; rw [if_pos c1, emin]
          rw [← ev]
          exact step _ (by omega) c2
        · rw [if_neg c2]
          have hno : restS C na nb t p3 = none := by unfold restS; rw [if_neg (by omega)]
          simp only [Option.bind_some]
          rw [if_pos trivial, hno]
          exact ⟨fun l1 l2 q e => (by cases e), fun _ => gw_fail hS hO⟩
      · rw [if_pos (nI_le (by omega) (by omega)), if_neg (by decide)]
        have ev : (0 : Int32) = nI (vvS C p3 t i) := by unfold vvS; rw [if_neg c1]; rfl
        have emin : min i (t + 4) = min (i + 1) (t + 4) := by omega
        rw [ev]
        exact step _ (by omega) hp
    · have ei : i = 19 := by omega
      subst ei
      have emin : min 19 (t + 4) = t + 4 := by omega
      rw [emin] at hp ⊢
      rw [if_pos (by decide)]
      simp only [gw_g, Option.bind_some]
      rw [show zobj (gwo J A r st Q (p3 + 3 * (t + 4)) O) 11 4 = some _ from rfl, Option.bind_some]
      obtain ⟨b, A1, e1, f1, g1⟩ := gw_build (F := F) (J := J) (r := r) (st := st) (Q := Q) (p := p3 + 3 * (t + 4)) (ls := clS C p3 t) (c := 11) (fr := 0) hF (Or.inl rfl) (by rw [clS_len]; decide) clS_15 (by rw [clS_len]; decide) hS hO (by
        intro k hk
        rw [clS_len] at hk
        have ho : ordN.getD (posN.getD k 0) 0 = k ∧ posN.getD k 0 < 19 := ord_pos ⟨k, hk⟩
        have := hv (posN.getD k 0) ho.2
        rw [ho.1] at this
        rw [Nat.zero_add, this, clS_g hk])
      rw [clS_len] at e1
      have c1 := cA.of3 (Or.inl rfl) f1
      rw [show f_Code_build F 11 23 0 19 (gwo J A r st Q (p3 + 3 * (t + 4)) O) = _ from e1, Option.bind_some]
      simp only []
      unfold restS
      rcases g1 with ⟨q1, q2, q3⟩ | ⟨q1, q2⟩
      · rw [q1, if_neg (show ¬ (1 : Int32) = 0 by decide), if_pos ⟨hp, q2⟩, gw_o]
        have en : ((nI na + (257 : Int32)) + nI nb) + (1 : Int32) = nI (na + 257 + (nb + 1)) := by
          rw [show (257 : Int32) = nI 257 from rfl, nI_add, nI_add, nI_1, Nat.add_assoc (na + 257)]
        have hrl := c_rl_4 (F := F) (J := J) (r := r) (a := a) (st := st) (Q := Q) (O := O) (C := C) (cl := clS C p3 t) (n := na + 257 + (nb + 1)) hF hO (by omega) clS_len 400 F 0 (p3 + 3 * (t + 4)) A1 [] c1.1 (c1.src hsrc) q3 (fun k hk => by cases hk) (Nat.zero_le _) (by rw [List.length_nil]; omega) (Nat.zero_le _) (by omega) hp (fun l hl => by cases hl)
        rw [en]
        unfold f_Unpacker_readLengths b_Unpacker_readLengths_0
        rw [show (nI ([] : List Nat).length : Int32) = 0 from rfl, show (nI 0 : Int32) = 0 from rfl] at hrl
        cases hR : rlS (clS C p3 t) C (na + 257 + (nb + 1)) 400 (p3 + 3 * (t + 4)) [] with
        | none =>
          refine ⟨fun l1 l2 q e => (by cases e), fun _ => ?_⟩
          obtain ⟨J', A', z1, z2⟩ := hrl.2 hR
          rw [z1, Option.bind_some]
          simp only []
          rw [if_pos trivial]
          exact ⟨J', A', rfl, c1.fr.tr z2⟩
        | some x =>
          obtain ⟨D, p4⟩ := x
          obtain ⟨A2, z1, z2, z3⟩ := hrl.1 D p4 hR
          have hok := rlS_ok hR (Nat.zero_le _) hp (fun l hl => by cases hl)
          rw [z1, Option.bind_some]
          simp only []
          rw [if_neg (show ¬ (1 : Int32) = 0 by decide), gw_o]
          have hcc := c_codes (F := F) (J := J) (A := A2) (r := r) (st := st) (Q := Q) (p := p4) (O := O) (D := D) (n1 := na + 257) (n2 := nb + 1) hF z2.1 hO hok.1 (by omega) (by omega) hok.2.2.2 z3
          rw [show nI na + (257 : Int32) = nI (na + 257) from nI_add na 257, nI_1]
          by_cases c5 : kS (pad 288 (D.take (na + 257))) 15 ≤ 32768 ∧ kS (pad 32 (D.drop (na + 257))) 15 ≤ 32768
          · obtain ⟨A3, w1, w2, w3, w4⟩ := hcc.1 c5
            rw [w1, Option.bind_some]
            simp only []
            rw [if_neg (show ¬ (1 : Int32) = 0 by decide), if_pos c5]
            exact ⟨fun l1 l2 q e => (by cases e; exact ⟨A3, rfl, (c1.tr z2).tr w2, w3, w4⟩), fun e => (by cases e)⟩
          · obtain ⟨J', A', w1, w2⟩ := hcc.2 c5
            rw [w1, Option.bind_some]
            simp only []
            rw [if_pos trivial, if_neg c5]
            exact ⟨fun l1 l2 q e => (by cases e), fun _ => ⟨J', A', rfl, (c1.tr z2).fr.tr w2⟩⟩
      · rw [q1, if_pos rfl, if_neg (fun z => q2 z.2)]
        exact ⟨fun l1 l2 q e => (by cases e), fun _ => cFl.cA c1 (gw_fail c1.1 hO)⟩
/-- readCodes -/
theorem c_readCodes (hF : 20000 ≤ F) (hS : Sh A) (hsrc : Src J A r a st C) (hO : O.length ≤ 200) (hp : p ≤ 8 * C.length) : (∀ l1 l2 q, rcS C p = some (l1, l2, q) → ∃ A2, f_Unpacker_readCodes F 10 (gwo J A r st Q p O) = some (1, gwo J A2 r st Q q O) ∧ cA A A2 ∧ CDt A2 15 l1 ∧ CDt A2 19 l2) ∧ (rcS C p = none → cFl J A r Q (f_Unpacker_readCodes F 10 (gwo J A r st Q p O))) := by
  have n5 : ∀ pp, pp ≤ 8 * C.length → f_Unpacker_takeBits F 10 5 (gwo J A r st Q pp O) = match tkS C pp 5 with
    | some (v, q) => some (nI v, gwo J A r st Q q O)
    | none => some (-1, gwo J A r st Q (8 * C.length) O) := fun pp hpp => gw_bits (n := 5) hF hsrc (by decide) hpp
  have n4 : ∀ pp, pp ≤ 8 * C.length → f_Unpacker_takeBits F 10 4 (gwo J A r st Q pp O) = match tkS C pp 4 with
    | some (v, q) => some (nI v, gwo J A r st Q q O)
    | none => some (-1, gwo J A r st Q (8 * C.length) O) := fun pp hpp => gw_bits (n := 4) hF hsrc (by decide) hpp
  have e5 : tkS C (8 * C.length) 5 = none := by unfold tkS; rw [if_neg (by omega)]
  have e4 : tkS C (8 * C.length) 4 = none := by unfold tkS; rw [if_neg (by omega)]
  unfold f_Unpacker_readCodes b_Unpacker_readCodes_0 rcS
  rw [gw_o, n5 p hp]
  cases h1 : tkS C p 5 with
  | none =>
    refine ⟨fun l1 l2 q e => (by cases e), fun _ => ?_⟩
    simp only [Option.bind_some, gw_o]
    rw [n5 _ (Nat.le_refl _), e5]
    simp only [Option.bind_some, gw_o]
    rw [n4 _ (Nat.le_refl _), e4]
    simp only [Option.bind_some]
    rw [if_pos trivial]
    exact gw_fail hS hO
  | some x1 =>
    obtain ⟨na, p1⟩ := x1
    have t1 := tkS_lt h1
    simp only [Option.bind_some, gw_o]
    rw [n5 _ t1.2.2]
    cases h2 : tkS C p1 5 with
    | none =>
      refine ⟨fun l1 l2 q e => (by cases e), fun _ => ?_⟩
      simp only [Option.bind_some, gw_o]
      rw [n4 _ (Nat.le_refl _), e4]
      simp only [Option.bind_some]
      rw [if_pos trivial]
      exact gw_fail hS hO
    | some x2 =>
      obtain ⟨nb, p2⟩ := x2
      have t2 := tkS_lt h2
      simp only [Option.bind_some, gw_o]
      rw [n4 _ t2.2.2]
      cases h3 : tkS C p2 4 with
      | none =>
        refine ⟨fun l1 l2 q e => (by cases e), fun _ => ?_⟩
        simp only [Option.bind_some]
        rw [if_pos trivial]
        exact gw_fail hS hO
      | some x3 =>
        obtain ⟨t, p3⟩ := x3
        have t3 := tkS_lt h3
        simp only [Option.bind_some]
        rw [if_neg (nI_neg1 (by omega))]
        have := c_rc_28 (F := F) (J := J) (r := r) (a := a) (st := st) (Q := Q) (O := O) (C := C) (p3 := p3) hF hO t1.1 t2.1 t3.1 F 0 A hS hsrc (by decide) (by omega) (by rw [Nat.zero_min]; omega) (fun j hj => by omega)
        rw [Nat.zero_min, Nat.mul_zero, Nat.add_zero] at this
        exact this
end Cc
