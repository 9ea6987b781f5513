/-! Faults of an entry, by the reference: the rest. -/
def mff (J : yJ) (A : yA) (J' : yJ) (A' : yA) : Prop := Sh A' ∧ (∀ o, o ≠ 39 → J' o = J o) ∧ (∀ k, k ≠ 6 → k ≠ 8 → k ≠ 10 → k ≠ 11 → J' 39 k = J 39 k) ∧ ∀ j, j < 42 ∨ 46 < j ∧ j < 57 ∨ 58 < j → A' j = A j
section Mf2
variable {J : yJ} {A : yA} {s : Nat} {Q : zW} {L O : List Int32} {F k ds : Nat} {es : List Ent}
theorem mff.tr {J1 J2 : yJ} {A1 A2 : yA} (h1 : mff J A J1 A1) (h2 : mff J1 A1 J2 A2) : mff J A J2 A2 := ⟨h2.1, fun o ho => (h2.2.1 o ho).trans (h1.2.1 o ho), fun k a b c d => (h2.2.2.1 k a b c d).trans (h1.2.2.1 k a b c d), fun j hj => (h2.2.2.2 j hj).trans (h1.2.2.2 j hj)⟩
theorem mff.ofl {A' : yA} {i : Nat} (h : lfr A A' i) : mff J A J A' := ⟨h.1, fun _ _ => rfl, fun _ _ _ _ _ => rfl, fun j hj => h.2.1 j (by omega) (by omega)⟩
theorem mff.ofm {J' : yJ} {A' : yA} (h : mfr J A J' A') : mff J A J' A' := ⟨h.1, h.2.1, fun k a _ c d => h.2.2.1 k a c d, fun j hj => h.2.2.2 j (by omega)⟩
theorem ME.eq {A' : yA} (h : ME A es) (e : ∀ j, 48 ≤ j → j < 57 → A' j = A j) : ME A' es := fun i hi j hj => by rw [e (48 + j) (by omega) (by omega)]; exact h i hi j hj
theorem m_meets_l (hF : 20000 ≤ F) (hk : k < es.length) (h8 : es.length ≤ 8) (hok : ∀ E ∈ es, okE ds E) (hds : ds ≤ L.length) (h18 : J 39 18 = nI ds) {en : Nat} (hen : en < 2 ^ 20) (b0 : Bool) : ∀ (m i : Nat) (A : yA), GF J A L → ME A es → (A 58)[k]? = some (nI en) → i ≤ k → k - i < m → ∃ A', l_Model_meets_21 F m 39 (nI k) (bI (b0 || mtB L ds es k en i)) (nI i) (YW J A s Q) = some (bI (b0 || mtB L ds es k en k), YW J A' s Q) ∧ Sh A' ∧ (∀ j, j ≠ 57 → j ≠ 58 → A' j = A j) ∧ (A' 57)[k]? = (A 57)[k]? ∧ (A' 58)[k]? = (A 58)[k]? := by
  intro m
  induction m with
  | zero => intro i A _ _ _ _ h; omega
  | succ m ih =>
    intro i A h hE h58 hi hm
    have hl := h.2.2.2.1
    show ∃ A', b_Model_meets_21 F (l_Model_meets_21 F m) 39 (nI k) (bI (b0 || mtB L ds es k en i)) (nI i) (YW J A s Q) = _ ∧ _
    unfold b_Model_meets_21 b_Model_meets_72 b_Model_meets_76 b_Model_meets_77
    by_cases hlt : i < k
    · have hi8 : i < 8 := by omega
      have hi' : i < es.length := by omega
      have oki := hok es[i] (List.getElem_mem hi')
      have okk := hok es[k] (List.getElem_mem hk)
      obtain ⟨A1, e1, l1, c1⟩ := m_locate (F := F) (s := s) (Q := Q) (E := es[i]) hF h hi8 (hE i hi') oki h18 hds
      have hE1 : ME A1 es := hE.eq (fun j a b => l1.2.1 j (by omega) (by omega))
      have hG1 : GF J A1 L := h.eqA l1.1 (l1.2.1 41 (by decide) (by decide))
      have h58' : (A1 58)[k]? = some (nI en) := by rw [(l1.2.2 k (by omega)).2]; exact h58
      have emt : mtB L ds es k en (i + 1) = (mtB L ds es k en i || ovB L ds es[i] es[k] en) := by
        show (mtB L ds es k en i || ovB L ds (eD es i) (eD es k) en) = _
        rw [eD_at hi', eD_at hk]
      have next : ∀ b : Bool, b = (b0 || mtB L ds es k en (i + 1)) → ∃ A', l_Model_meets_21 F m 39 (nI k) (bI b) (nI i + 1) (YW J A1 s Q) = some (bI (b0 || mtB L ds es k en k), YW J A' s Q) ∧ Sh A' ∧ (∀ j, j ≠ 57 → j ≠ 58 → A' j = A j) ∧ (A' 57)[k]? = (A 57)[k]? ∧ (A' 58)[k]? = (A 58)[k]? := by
        intro b hb
        rw [hb, nI_1]
        obtain ⟨A', q1, q2, q3, q4, q5⟩ := ih (i + 1) A1 hG1 hE1 h58' (by omega) (by omega)
        exact ⟨A', q1, q2, fun j a b => (q3 j a b).trans (l1.2.1 j a b), q4.trans (l1.2.2 k (by omega)).1, q5.trans (l1.2.2 k (by omega)).2⟩
      rw [if_neg (nI_ge hlt (by omega)), wo_M, Option.bind_some, e1, Option.bind_some]
      simp only []
      cases hb : (b0 || mtB L ds es k en i) with
      | true =>
        rw [if_neg (show ¬ bI true = 0 by decide)]
        refine next true ?_
        rw [emt, ← Bool.or_assoc, hb]
        rfl
      | false =>
        rw [if_pos (show bI false = 0 from rfl)]
        have hz : (b0 || mtB L ds es k en (i + 1)) = ovB L ds es[i] es[k] en := by rw [emt, ← Bool.or_assoc, hb, Bool.false_or]
        unfold ovB at hz
        cases hlo : locS L ds es[i] with
        | none =>
          rw [hlo] at hz
          rw [if_pos (show (if (none : Option Nat).isSome then (1 : Int32) else 0) = 0 from rfl)]
          exact next false hz.symm
        | some c =>
          rw [hlo] at hz
          have hc := locS_le hlo
          obtain ⟨-, g58⟩ := c1 c hlo
          have a6i : aget (YW J A1 s Q) 54 (nI i) = some (nI (es[i] 6)) := ag_ (by decide) (by omega) (hE1 i hi' 6 (by decide))
          have a6k : aget (YW J A1 s Q) 54 (nI k) = some (nI (es[k] 6)) := ag_ (by decide) (by omega) (hE1 k hk 6 (by decide))
          have a58k : aget (YW J A1 s Q) 58 (nI k) = some (nI en) := ag_ (by decide) (by omega) h58'
          have a58i : aget (YW J A1 s Q) 58 (nI i) = some (nI (endE es[i] c)) := ag_ (by decide) (by omega) g58
          rw [if_neg (show ¬ (if (some c).isSome then (1 : Int32) else 0) = 0 from by show ¬ (1 : Int32) = 0; decide), show getR (YW J A1 s Q) 39 9 26 = some 54 from rfl, Option.bind_some, a6i, Option.bind_some, show getR (YW J A1 s Q) 39 9 30 = some 58 from rfl, Option.bind_some, a58k, Option.bind_some]
          obtain ⟨-, -, i1, -, -, i4, -, i6⟩ := oki
          obtain ⟨-, -, -, -, -, -, -, k6⟩ := okk
          by_cases d1 : es[i] 6 < en
          · rw [if_neg (nI_ge d1 (by omega)), Option.bind_some, a6k, Option.bind_some, Option.bind_some, a58i, Option.bind_some]
            by_cases d2 : es[k] 6 < endE es[i] c
            · rw [if_neg (nI_ge d2 (by unfold endE; omega))]
              exact next true (by rw [hz]; simp [d1, d2])
            · rw [if_pos (nI_le (by omega) (by omega))]
              exact next false (by rw [hz]; simp [d2])
          · rw [if_pos (nI_le (by omega) (by omega))]
            exact next false (by rw [hz]; simp [d1])
    · have ei : i = k := by omega
      subst ei
      rw [if_pos (nI_le (by omega) (by omega))]
      have hbv : bI (b0 || mtB L ds es i en i) = 0 ∨ bI (b0 || mtB L ds es i en i) = 1 := by
        cases (b0 || mtB L ds es i en i) with
        | true => exact Or.inr rfl
        | false => exact Or.inl rfl
      rw [if_pos hbv]
      exact ⟨A, rfl, h.1, fun _ _ _ => rfl, rfl, rfl⟩
/-- meets -/
theorem m_meets (hF : 20000 ≤ F) (h : GF J A L) (hE : ME A es) (h18 : J 39 18 = nI ds) (hk : k < es.length) (h8 : es.length ≤ 8) (hok : ∀ E ∈ es, okE ds E) (hds : ds ≤ L.length) {en : Nat} (hen : en < 2 ^ 20) (h58 : (A 58)[k]? = some (nI en)) : ∃ A', f_Model_meets F 39 (nI k) (YW J A s Q) = some (if ds < en ∨ mtB L ds es k en k = true then 1 else 0, YW J A' s Q) ∧ Sh A' ∧ (∀ j, j ≠ 57 → j ≠ 58 → A' j = A j) ∧ (A' 57)[k]? = (A 57)[k]? ∧ (A' 58)[k]? = (A 58)[k]? := by
  have hl := h.2.2.2.1
  have a58 : aget (YW J A s Q) 58 (nI k) = some (nI en) := ag_ (by decide) (by omega) h58
  unfold f_Model_meets b_Model_meets_0 b_Model_meets_18
  rw [show getR (YW J A s Q) 39 9 30 = some 58 from rfl, Option.bind_some, a58, Option.bind_some, show getI (YW J A s Q) 39 9 18 = some (J 39 18) from rfl, Option.bind_some, h18]
  have key := fun b0 : Bool => m_meets_l (F := F) (J := J) (s := s) (Q := Q) hF hk h8 hok hds h18 hen b0 F 0 A h hE h58 (Nat.zero_le _) (by omega)
  by_cases c1 : en ≤ ds
  · rw [if_pos (nI_le c1 (by omega))]
    obtain ⟨A', q1, q2⟩ := key false
    refine ⟨A', ?_, q2⟩
    rw [show l_Model_meets_21 F F 39 (nI k) 0 0 (YW J A s Q) = _ from q1]
    cases hm : mtB L ds es k en k with
    | true => rw [if_pos (Or.inr rfl)]; rfl
    | false =>
      rw [if_neg (by rintro (q | q); omega; cases q)]
      rfl
  · rw [if_neg (nI_ge (by omega) (by omega))]
    obtain ⟨A', q1, q2⟩ := key true
    refine ⟨A', ?_, q2⟩
    rw [show l_Model_meets_21 F F 39 (nI k) 1 0 (YW J A s Q) = _ from q1, if_pos (Or.inl (by omega))]
    rfl
/-- isDescribed -/
theorem m_behind {E : Ent} (hF : 20000 ≤ F) (hd : ds ≤ L.length) (h : GF J A L) (hk : k < 8) (hE : ∀ j, j < 9 → (A (48 + j))[k]? = some (nI (E j))) (hok : okE ds E) {c : Nat} (hc : c ≤ ds) (h57 : (A 57)[k]? = some (nI c)) (hq : E 1 = 8 → c + E 4 + 16 ≤ L.length) : f_Model_isDescribed F 39 (nI k) (YW J A s Q) = some (if dscP L E (c + E 4) then 1 else 0, YW J A s Q) := by
  obtain ⟨k0, k0', k1, k2, k3, k4, k5, k6⟩ := hok
  have hb := h.2.2.2.2
  have hl := h.2.2.2.1
  have z4 : ∀ q, nvL L q 4 < 2 ^ 32 := fun q => nvL_32 hb
  have n4 : ∀ q, q + 4 ≤ L.length → f_Model_number F 39 (nI q) 4 (YW J A s Q) = some (lN_ (nvL L q 4), YW J A s Q) := fun q hq => M_number (n := 4) hF h hq (by decide)
  have a1 : aget (YW J A s Q) 49 (nI k) = some (nI (E 1)) := ag_ (by decide) (by omega) (hE 1 (by decide))
  have a3 : aget (YW J A s Q) 51 (nI k) = some (nI (E 3)) := ag_ (by decide) (by omega) (hE 3 (by decide))
  have a4 : aget (YW J A s Q) 52 (nI k) = some (nI (E 4)) := ag_ (by decide) (by omega) (hE 4 (by decide))
  have a5 : aget (YW J A s Q) 53 (nI k) = some (nI (E 5)) := ag_ (by decide) (by omega) (hE 5 (by decide))
  have a57 : aget (YW J A s Q) 57 (nI k) = some (nI c) := ag_ (by decide) (by omega) h57
  unfold f_Model_isDescribed b_Model_isDescribed_0 b_Model_isDescribed_94 b_Model_isDescribed_98
  rw [show getR (YW J A s Q) 39 9 29 = some 57 from rfl, Option.bind_some, a57, Option.bind_some, show getR (YW J A s Q) 39 9 24 = some 52 from rfl, Option.bind_some, a4, Option.bind_some, show getR (YW J A s Q) 39 9 21 = some 49 from rfl, Option.bind_some, a1, Option.bind_some, nI_add]
  rcases k1 with e0 | e8
  · rw [if_pos (show nI (E 1) = (0 : Int32) by rw [e0]; rfl), if_pos (fun q => by omega)]
  · have hq' := hq e8
    rw [if_neg (show ¬ nI (E 1) = (0 : Int32) by rw [e8]; decide), wo_M, Option.bind_some, n4 _ (by omega), Option.bind_some]
    simp only []
    rw [show nI (c + E 4) + (4 : Int32) = nI (c + E 4 + 4) from nI_add _ 4, show nI (c + E 4) + (8 : Int32) = nI (c + E 4 + 8) from nI_add _ 8, show nI (c + E 4) + (12 : Int32) = nI (c + E 4 + 12) from nI_add _ 12, wo_M, Option.bind_some, n4 (c + E 4 + 4) (by omega), Option.bind_some]
    simp only []
    rw [show getR (YW J A s Q) 39 9 23 = some 51 from rfl, Option.bind_some, a3, Option.bind_some, wo_M, Option.bind_some, n4 (c + E 4 + 8) (by omega), Option.bind_some]
    simp only []
    rw [show getR (YW J A s Q) 39 9 24 = some 52 from rfl, Option.bind_some, a4, Option.bind_some, wo_M, Option.bind_some, n4 (c + E 4 + 12) (by omega), Option.bind_some]
    simp only []
    rw [show getR (YW J A s Q) 39 9 25 = some 53 from rfl, Option.bind_some, a5, Option.bind_some, ln_i32, ex_bv (k := E 4) (by omega), ex_bv (k := E 5) (by omega), show (134695760 : Int64) = lN_ 134695760 from rfl]
    have b1 := z4 (c + E 4)
    have b2 := z4 (c + E 4 + 4)
    have b3 := z4 (c + E 4 + 8)
    have b4 := z4 (c + E 4 + 12)
    by_cases c1 : nvL L (c + E 4) 4 = 134695760
    · rw [if_pos ((lg_ln (by omega) (by decide)).mpr c1)]
      by_cases c2 : nvL L (c + E 4 + 4) 4 = E 3
      · rw [if_pos (show nI (nvL L (c + E 4 + 4) 4) = nI (E 3) by rw [c2])]
        by_cases c3 : nvL L (c + E 4 + 8) 4 = E 4
        · rw [if_pos ((lg_ln (by omega) (by omega)).mpr c3)]
          by_cases c4 : nvL L (c + E 4 + 12) 4 = E 5
          · rw [if_pos ((lg_ln (by omega) (by omega)).mpr c4), if_pos (fun _ => ⟨c1, c2, c3, c4⟩)]
          · rw [if_neg (fun z => c4 ((lg_ln (by omega) (by omega)).mp z)), if_neg (fun z => c4 (z e8).2.2.2)]
        · rw [if_neg (fun z => c3 ((lg_ln (by omega) (by omega)).mp z)), if_neg (fun z => c3 (z e8).2.2.1)]
      · rw [if_neg (show ¬ nI (nvL L (c + E 4 + 4) 4) = nI (E 3) from fun z => c2 ((nI_eq32 b2 k3).mp z)), if_neg (fun z => c2 (z e8).2.1)]
    · rw [if_neg (fun z => c1 ((lg_ln (by omega) (by decide)).mp z)), if_neg (fun z => c1 (z e8).1)]
theorem m_crcC_l (hF : 20000 ≤ F) (h6 : J 39 6 = nI O.length) (h42 : (A 42).take O.length = O) (hO : O.length ≤ 400) : ∀ (m k : Nat) (x : Int32), k ≤ O.length → O.length - k < m → l_Model_crcOfContent_4 F m 39 x (nI k) (YW J A s Q) = some (-1 - crcF (O.drop k) x, YW J A s Q) := by
  intro m
  induction m with
  | zero => intro k x _ h; omega
  | succ m ih =>
    intro k x hk hm
    show b_Model_crcOfContent_4 F (l_Model_crcOfContent_4 F m) 39 x (nI k) (YW J A s Q) = _
    unfold b_Model_crcOfContent_4
    rw [show getI (YW J A s Q) 39 9 6 = some (J 39 6) from rfl, Option.bind_some, h6]
    by_cases hlt : k < O.length
    · have hg : aget (YW J A s Q) 42 (nI k) = some O[k] := ag_ (by decide) (by omega) (take_get h42 hlt)
      rw [if_neg (nI_ge hlt (by omega)), show getR (YW J A s Q) 39 9 7 = some 42 from rfl, Option.bind_some, hg, Option.bind_some, stir_ F hF, Option.bind_some]
      simp only []
      rw [nI_1, ih (k + 1) _ (by omega) (by omega), List.drop_eq_getElem_cons hlt]
      rfl
    · rw [if_pos (nI_le (by omega) (by omega)), List.drop_of_length_le (by omega)]
      rfl
theorem m_crcC (hF : 20000 ≤ F) (h6 : J 39 6 = nI O.length) (h42 : (A 42).take O.length = O) (hO : O.length ≤ 400) : f_Model_crcOfContent F 39 (YW J A s Q) = some (crcL O, YW J A s Q) := by
  have := m_crcC_l (F := F) (s := s) (Q := Q) hF h6 h42 hO F 0 (-1) (Nat.zero_le _) (by omega)
  rw [List.drop_zero] at this
  exact this
/-- the last tests -/
theorem m_150 {E : Ent} (hF : 20000 ≤ F) (hk : k < 8) (hE : ∀ j, j < 9 → (A (48 + j))[k]? = some (nI (E j))) (h5 : E 5 ≤ 200) (h6 : J 39 6 = nI O.length) (h42 : (A 42).take O.length = O) (hO : O.length ≤ 400) : b_Model_fault_150 F 39 (nI k) (YW J A s Q) = some (nI (ftE E (some O)).1, YW J A s Q) := by
  have a3 : aget (YW J A s Q) 51 (nI k) = some (nI (E 3)) := ag_ (by decide) (by omega) (hE 3 (by decide))
  have a5 : aget (YW J A s Q) 53 (nI k) = some (nI (E 5)) := ag_ (by decide) (by omega) (hE 5 (by decide))
  have e6 : ftE E (some O) = if O.length = E 5 then (if crcL O = nI (E 3) then (0, O) else (8, [])) else (7, []) := rfl
  unfold b_Model_fault_150
  rw [show getI (YW J A s Q) 39 9 6 = some (J 39 6) from rfl, Option.bind_some, h6, show getR (YW J A s Q) 39 9 25 = some 53 from rfl, Option.bind_some, a5, Option.bind_some, e6]
  by_cases c3 : O.length = E 5
  · rw [if_pos (show nI O.length = nI (E 5) by rw [c3]), if_pos c3, wo_M, Option.bind_some, m_crcC hF h6 h42 hO, Option.bind_some]
    have e8 : ∀ z : Int32, ((getR ((z, YW J A s Q) : Int32 × zW).2 39 9 23).bind fun x173 => (aget ((z, YW J A s Q) : Int32 × zW).2 x173 (nI k)).bind fun x177 => if ((z, YW J A s Q) : Int32 × zW).1 = x177 then (some ((0 : Int32), ((z, YW J A s Q) : Int32 × zW).2)) else (some ((8 : Int32), ((z, YW J A s Q) : Int32 × zW).2))) = some (if z = nI (E 3) then 0 else 8, YW J A s Q) := by
      intro z
      show ((getR (YW J A s Q) 39 9 23).bind fun x173 => (aget (YW J A s Q) x173 (nI k)).bind fun x177 => if z = x177 then (some ((0 : Int32), YW J A s Q)) else (some ((8 : Int32), YW J A s Q))) = _
      rw [show getR (YW J A s Q) 39 9 23 = some 51 from rfl, Option.bind_some, a3, Option.bind_some]
      by_cases c4 : z = nI (E 3)
      · rw [if_pos c4, if_pos c4]
      · rw [if_neg c4, if_neg c4]
    rw [e8 (crcL O)]
    by_cases c4 : crcL O = nI (E 3)
    · rw [if_pos c4, if_pos c4]; rfl
    · rw [if_neg c4, if_neg c4]; rfl
  · rw [if_neg (show ¬ nI O.length = nI (E 5) from fun z => c3 ((nI_eq (by omega) (by omega)).mp z)), if_neg c3]
    rfl
theorem m_124 {E : Ent} {C : List Int32} (hF : 20000 ≤ F) (hS : Sh A) (hk : k < 8) (hE : ∀ j, j < 9 → (A (48 + j))[k]? = some (nI (E j))) (h5 : E 5 ≤ 200) (h8 : J 39 8 = nI C.length) (h6 : J 39 6 = nI C.length) (h43 : (A 43).take C.length = C) (hC : C.length ≤ 400) : ∀ (m i : Nat), i ≤ C.length → C.length - i < m → l_Model_fault_124 F m 39 (nI k) (nI i) (YW J (ud A 42 (wr (A 42) 0 (C.take i))) s Q) = some (nI (ftE E (some C)).1, YW J (ud A 42 (wr (A 42) 0 C)) s Q) := by
  have hl : (A 42).length = 400 := hS 42
  intro m
  induction m with
  | zero => intro i _ h; omega
  | succ m ih =>
    intro i hi hm
    show b_Model_fault_124 F (l_Model_fault_124 F m) 39 (nI k) (nI i) _ = _
    unfold b_Model_fault_124
    rw [show getI (YW J (ud A 42 (wr (A 42) 0 (C.take i))) s Q) 39 9 8 = some (J 39 8) from rfl, Option.bind_some, h8]
    have ht : (C.take i).length = i := by rw [List.length_take]; omega
    by_cases hlt : i < C.length
    · have hg : aget (YW J (ud A 42 (wr (A 42) 0 (C.take i))) s Q) 43 (nI i) = some C[i] := ag_ (by decide) (by omega) (by rw [ud_n (by decide)]; exact take_get h43 hlt)
      rw [if_neg (nI_ge hlt (by omega)), show getR (YW J (ud A 42 (wr (A 42) 0 (C.take i))) s Q) 39 9 7 = some 42 from rfl, Option.bind_some, show getR (YW J (ud A 42 (wr (A 42) 0 (C.take i))) s Q) 39 9 9 = some 43 from rfl, Option.bind_some, hg, Option.bind_some, as_ (by decide) (by rw [ud_s, wr_len (by omega)]; omega) (by rw [ud_s, wr_len (by omega)]; omega), Option.bind_some, nI_1, ud_ud, ud_s, wr_set (by rw [wr_len (by omega)]; omega)]
      have e := wr_wr (xs := A 42) (n := 0) (X := C.take i) (Y := [C[i]]) (by rw [List.length_singleton]; omega)
      rw [Nat.zero_add, ht] at e
      rw [e, List.take_append_getElem hlt]
      exact ih (i + 1) (by omega) (by omega)
    · rw [if_pos (nI_le (by omega) (by omega)), List.take_of_length_le (by omega)]
      exact m_150 hF hk (fun j hj => by rw [ud_n (by omega)]; exact hE j hj) h5 h6 (by rw [ud_s]; exact wr0_take (by omega)) hC
/-- from the bytes laid out on -/
theorem m_42 {E : Ent} {c : Nat} (hF : 20000 ≤ F) (h : GF J A L) (h47 : A 47 = mOrd) (hk : k < 8) (hE : ∀ j, j < 9 → (A (48 + j))[k]? = some (nI (E j))) (h5 : E 5 ≤ 200) (h2 : E 2 = 0 ∨ E 2 = 8) (h57 : (A 57)[k]? = some (nI c)) (hc : c + E 4 ≤ L.length) (h8 : J 39 8 = nI (E 4)) : ∀ (m i : Nat), i ≤ E 4 → E 4 - i < m → ∃ J' A', l_Model_fault_42 F m 39 (nI k) (nI i) (YW J (ud A 43 (wr (A 43) 0 ((slc L c (c + E 4)).take i))) s Q) = some (nI (ftE E (cnS L E c)).1, YW J' A' s Q) ∧ mff J A J' A' ∧ ((ftE E (cnS L E c)).1 = 0 → J' 39 6 = nI (ftE E (cnS L E c)).2.length ∧ (A' 42).take (ftE E (cnS L E c)).2.length = (ftE E (cnS L E c)).2) := by
  have hl : (A 43).length = 1600 := h.1 43
  have hL := h.2.2.2.1
  have hC : (slc L c (c + E 4)).length = E 4 := by rw [slc_len hc]; omega
  intro m
  induction m with
  | zero => intro i _ h; omega
  | succ m ih =>
    intro i hi hm
    show ∃ J' A', b_Model_fault_42 F (l_Model_fault_42 F m) 39 (nI k) (nI i) (YW J (ud A 43 (wr (A 43) 0 ((slc L c (c + E 4)).take i))) s Q) = _ ∧ _
    unfold b_Model_fault_42
    rw [show getI (YW J (ud A 43 (wr (A 43) 0 ((slc L c (c + E 4)).take i))) s Q) 39 9 8 = some (J 39 8) from rfl, Option.bind_some, h8]
    have ht : ((slc L c (c + E 4)).take i).length = i := by rw [List.length_take]; omega
    by_cases hlt : i < E 4
    · have hg1 : aget (YW J (ud A 43 (wr (A 43) 0 ((slc L c (c + E 4)).take i))) s Q) 57 (nI k) = some (nI c) := ag_ (by decide) (by omega) (by rw [ud_n (by decide)]; exact h57)
      have hgx : (slc L c (c + E 4))[i]? = L[c + i]? := by unfold slc; rw [List.getElem?_take_of_lt (by omega), List.getElem?_drop]
      have hg : aget (YW J (ud A 43 (wr (A 43) 0 ((slc L c (c + E 4)).take i))) s Q) 41 (nI c + nI i) = some (slc L c (c + E 4))[i] := by
        rw [nI_add]
        refine ag_ (by decide) (by omega) ?_
        rw [ud_n (by decide), take_get h.2.2.1 (by omega), ← List.getElem?_eq_getElem, ← hgx, List.getElem?_eq_getElem (by omega)]
      rw [if_neg (nI_ge hlt (by omega)), show getR (YW J (ud A 43 (wr (A 43) 0 ((slc L c (c + E 4)).take i))) s Q) 39 9 9 = some 43 from rfl, Option.bind_some, show getR (YW J (ud A 43 (wr (A 43) 0 ((slc L c (c + E 4)).take i))) s Q) 39 9 4 = some 41 from rfl, Option.bind_some, show getR (YW J (ud A 43 (wr (A 43) 0 ((slc L c (c + E 4)).take i))) s Q) 39 9 29 = some 57 from rfl, Option.bind_some, hg1, Option.bind_some, hg, Option.bind_some, as_ (by decide) (by rw [ud_s, wr_len (by omega)]; omega) (by rw [ud_s, wr_len (by omega)]; omega), Option.bind_some, nI_1, ud_ud, ud_s, wr_set (by rw [wr_len (by omega)]; omega)]
      have e := wr_wr (xs := A 43) (n := 0) (X := (slc L c (c + E 4)).take i) (Y := [(slc L c (c + E 4))[i]]) (by rw [List.length_singleton]; omega)
      rw [Nat.zero_add, ht] at e
      rw [e, List.take_append_getElem (by omega)]
      exact ih (i + 1) (by omega) (by omega)
    · rw [if_pos (nI_le (by omega) (by omega)), List.take_of_length_le (by omega)]
      have S1 : Sh (ud A 43 (wr (A 43) 0 (slc L c (c + E 4)))) := h.1.ud (wr_len (by omega))
      have mf1 : mff J A J (ud A 43 (wr (A 43) 0 (slc L c (c + E 4)))) := ⟨S1, fun _ _ => rfl, fun _ _ _ _ _ => rfl, fun j hj => ud_n (by omega)⟩
      have hE1 : ∀ j, j < 9 → (ud A 43 (wr (A 43) 0 (slc L c (c + E 4))) (48 + j))[k]? = some (nI (E j)) := fun j hj => by rw [ud_n (by omega)]; exact hE j hj
      have h43' : (ud A 43 (wr (A 43) 0 (slc L c (c + E 4))) 43).take (slc L c (c + E 4)).length = slc L c (c + E 4) := by rw [ud_s]; exact wr0_take (by omega)
      have h47' : ud A 43 (wr (A 43) 0 (slc L c (c + E 4))) 47 = mOrd := by rw [ud_n (by decide)]; exact h47
      generalize ud A 43 (wr (A 43) 0 (slc L c (c + E 4))) = A1 at S1 mf1 hE1 h43' h47' ⊢
      have a2 : aget (YW J A1 s Q) 50 (nI k) = some (nI (E 2)) := ag_ (by decide) (by omega) (hE1 2 (by decide))
      have a4 : aget (YW J A1 s Q) 52 (nI k) = some (nI (E 4)) := ag_ (by decide) (by omega) (hE1 4 (by decide))
      have a5 : aget (YW J A1 s Q) 53 (nI k) = some (nI (E 5)) := ag_ (by decide) (by omega) (hE1 5 (by decide))
      rw [show getR (YW J A1 s Q) 39 9 22 = some 50 from rfl, Option.bind_some, a2, Option.bind_some]
      unfold cnS
      by_cases e8 : E 2 = 8
      · rw [if_pos (show nI (E 2) = (8 : Int32) by rw [e8]; rfl), if_pos e8, wo_M, Option.bind_some]
        have hu := m_unpacked (F := F) (J := J) (A := A1) (s := s) (Q := Q) (C := slc L c (c + E 4)) hF S1 h47' (srm_of (by rw [hC]; exact h8) h43' (by omega) (isB_slc h.2.2.2.2))
        cases hun : unS (slc L c (c + E 4)) with
        | none =>
          obtain ⟨J2, A2, e2, f2⟩ := hu.2 hun
          rw [e2, Option.bind_some, if_pos (show ((0 : Int32), YW J2 A2 s Q).1 = 0 from rfl)]
          exact ⟨J2, A2, rfl, mf1.tr (mff.ofm f2), fun q => absurd (show (6 : Nat) = 0 from q) (by decide)⟩
        | some O =>
          obtain ⟨J2, A2, e2, f2, g1, g2⟩ := hu.1 O hun
          have hO := unS_ok (isB_slc h.2.2.2.2) hun
          rw [e2, Option.bind_some, if_neg (show ¬ ((1 : Int32), YW J2 A2 s Q).1 = 0 from by show ¬ (1 : Int32) = 0; decide), show b_Model_fault_150 F 39 (nI k) ((1 : Int32), YW J2 A2 s Q).2 = _ from m_150 hF hk (fun j hj => by rw [f2.2.2.2 (48 + j) (by omega)]; exact hE1 j hj) h5 g1 g2 (by omega)]
          refine ⟨J2, A2, rfl, mf1.tr (mff.ofm f2), ?_⟩
          have e6 : ftE E (some O) = if O.length = E 5 then (if crcL O = nI (E 3) then (0, O) else (8, [])) else (7, []) := rfl
          rw [e6]
          by_cases c3 : O.length = E 5
          · rw [if_pos c3]
            by_cases c4 : crcL O = nI (E 3)
            · rw [if_pos c4]
              exact fun _ => ⟨g1, g2⟩
            · rw [if_neg c4]
              exact fun q => absurd (show (8 : Nat) = 0 from q) (by decide)
          · rw [if_neg c3]
            exact fun q => absurd (show (7 : Nat) = 0 from q) (by decide)
      · rw [if_neg (show ¬ nI (E 2) = (8 : Int32) from fun q => e8 ((nI_eq (b := 8) (by omega) (by decide)).mp q)), if_neg e8, show getR (YW J A1 s Q) 39 9 24 = some 52 from rfl, Option.bind_some, a4, Option.bind_some, show getR (YW J A1 s Q) 39 9 25 = some 53 from rfl, Option.bind_some, a5, Option.bind_some]
        by_cases c1 : E 4 = E 5
        · rw [if_pos (show nI (E 4) = nI (E 5) by rw [c1]), if_pos c1, Option.bind_some]
          have h42 : (A1 42).length = 400 := S1 42
          have e1 : putI (YW J A1 s Q) 39 9 6 (nI (E 4)) = some (YW (pj J 39 6 (nI (E 4))) A1 s Q) := by simp only [wp_M]
          rw [e1, Option.bind_some]
          have e2 := m_124 (F := F) (J := pj J 39 6 (nI (E 4))) (A := A1) (s := s) (Q := Q) (E := E) (C := slc L c (c + E 4)) hF S1 hk hE1 h5 (by rw [pj_k (by decide), hC]; exact h8) (by rw [pj_s, hC]) h43' (by omega) F 0 (Nat.zero_le _) (by omega)
          rw [List.take_zero, wr_nil, ud_id rfl, show (nI 0 : Int32) = 0 from rfl] at e2
          rw [e2]
          have mf2 : mff J A1 (pj J 39 6 (nI (E 4))) (ud A1 42 (wr (A1 42) 0 (slc L c (c + E 4)))) := mff.ofm (((mfr.rf S1).pj (Or.inl rfl)).ud (Or.inl rfl) (wr_len (by omega)))
          refine ⟨_, _, rfl, mf1.tr mf2, ?_⟩
          have e6 : ftE E (some (slc L c (c + E 4))) = if (slc L c (c + E 4)).length = E 5 then (if crcL (slc L c (c + E 4)) = nI (E 3) then (0, slc L c (c + E 4)) else (8, [])) else (7, []) := rfl
          rw [e6, if_pos (show (slc L c (c + E 4)).length = E 5 by omega)]
          by_cases c4 : crcL (slc L c (c + E 4)) = nI (E 3)
          · rw [if_pos c4]
            exact fun _ => ⟨by show pj J 39 6 (nI (E 4)) 39 6 = nI (slc L c (c + E 4)).length; rw [pj_s, hC], by show (ud A1 42 (wr (A1 42) 0 (slc L c (c + E 4))) 42).take (slc L c (c + E 4)).length = slc L c (c + E 4); rw [ud_s]; exact wr0_take (by omega)⟩
          · rw [if_neg c4]
            exact fun q => absurd (show (8 : Nat) = 0 from q) (by decide)
        · rw [if_neg (show ¬ nI (E 4) = nI (E 5) from fun z => c1 ((nI_eq (by omega) (by omega)).mp z)), if_neg c1]
          exact ⟨J, A1, rfl, mf1, fun q => absurd (show (6 : Nat) = 0 from q) (by decide)⟩
/-- fault -/
theorem m_fault (hF : 20000 ≤ F) (h : GF J A L) (h47 : A 47 = mOrd) (hE : ME A es) (h18 : J 39 18 = nI ds) (hk : k < es.length) (h8 : es.length ≤ 8) (hok : ∀ E ∈ es, okE ds E) (hds : ds ≤ L.length) : ∃ J' A', f_Model_fault F 39 (nI k) (YW J A s Q) = some (nI (ftS L ds es k).1, YW J' A' s Q) ∧ mff J A J' A' ∧ ((ftS L ds es k).1 = 0 → J' 39 6 = nI (ftS L ds es k).2.length ∧ (A' 42).take (ftS L ds es k).2.length = (ftS L ds es k).2) := by
  have hl := h.2.2.2.1
  have hk8 : k < 8 := by omega
  have okk := hok es[k] (List.getElem_mem hk)
  obtain ⟨A1, e1, l1, c1⟩ := m_locate (F := F) (s := s) (Q := Q) (E := es[k]) hF h hk8 (hE k hk) okk h18 hds
  have hfs : ftS L ds es k = ftC L ds es k (locS L ds es[k]) := by unfold ftS; rw [eD_at hk]
  rw [hfs]
  unfold f_Model_fault b_Model_fault_0
  rw [wo_M, Option.bind_some, e1, Option.bind_some]
  cases hloc : locS L ds es[k] with
  | none =>
    rw [if_pos (show ((if (none : Option Nat).isSome then (1 : Int32) else 0), YW J A1 s Q).1 = 0 from rfl)]
    exact ⟨J, A1, rfl, mff.ofl l1, fun q => absurd (show (3 : Nat) = 0 from q) (by decide)⟩
  | some c =>
    have hc := locS_le hloc
    obtain ⟨g57, g58⟩ := c1 c hloc
    rw [if_neg (show ¬ ((if (some c).isSome then (1 : Int32) else 0), YW J A1 s Q).1 = 0 from by show ¬ (1 : Int32) = 0; decide)]
    have hE1 : ME A1 es := hE.eq (fun j a b => l1.2.1 j (by omega) (by omega))
    have hG1 : GF J A1 L := h.eqA l1.1 (l1.2.1 41 (by decide) (by decide))
    have hend : endE es[k] c < 2 ^ 20 := by
      obtain ⟨-, -, i1, -, -, i4, -, i6⟩ := okk
      unfold endE
      omega
    obtain ⟨A2, e2, S2, o2, p57, p58⟩ := m_meets (F := F) (s := s) (Q := Q) hF hG1 hE1 h18 hk h8 hok hds hend g58
    have mf2 : mff J A J A2 := ⟨S2, fun _ _ => rfl, fun _ _ _ _ _ => rfl, fun j hj => by rw [o2 j (by omega) (by omega)]; exact l1.2.1 j (by omega) (by omega)⟩
    have hfc : ftC L ds es k (some c) = if ds < endE es[k] c ∨ mtB L ds es k (endE es[k] c) k = true then (4, []) else if dscP L es[k] (c + es[k] 4) then ftE es[k] (cnS L es[k] c) else (5, []) := by
      show (if ds < endE (eD es k) c ∨ mtB L ds es k (endE (eD es k) c) k = true then (4, []) else if dscP L (eD es k) (c + eD es k 4) then ftE (eD es k) (cnS L (eD es k) c) else (5, [])) = _
      rw [eD_at hk]
    rw [hfc]
    rw [show zobj (((if (some c).isSome then (1 : Int32) else 0), YW J A1 s Q) : Int32 × zW).2 39 9 = some _ from wo_M J A1 s Q, Option.bind_some, show f_Model_meets F 39 (nI k) (((if (some c).isSome then (1 : Int32) else 0), YW J A1 s Q) : Int32 × zW).2 = _ from e2, Option.bind_some]
    by_cases c1 : ds < endE es[k] c ∨ mtB L ds es k (endE es[k] c) k = true
    · have q1 : (if ds < endE es[k] c ∨ mtB L ds es k (endE es[k] c) k = true then (1 : Int32) else 0) = 1 := if_pos c1
      rw [q1, if_neg (show ¬ ((1 : Int32), YW J A2 s Q).1 = 0 from by show ¬ (1 : Int32) = 0; decide), if_pos c1]
      exact ⟨J, A2, rfl, mf2, fun q => absurd (show (4 : Nat) = 0 from q) (by decide)⟩
    · have q1 : (if ds < endE es[k] c ∨ mtB L ds es k (endE es[k] c) k = true then (1 : Int32) else 0) = 0 := if_neg c1
      rw [q1, if_pos (show ((0 : Int32), YW J A2 s Q).1 = 0 from rfl), if_neg c1]
      have hend2 : c + es[k] 4 + 2 * es[k] 1 ≤ ds := Nat.le_of_not_lt (fun q => c1 (Or.inl q))
      have hE2 : ME A2 es := hE1.eq (fun j a b => o2 j (by omega) (by omega))
      have hG2 : GF J A2 L := hG1.eqA S2 (o2 41 (by decide) (by decide))
      have g57' : (A2 57)[k]? = some (nI c) := by rw [p57]; exact g57
      have hbe := m_behind (F := F) (J := J) (s := s) (Q := Q) (ds := ds) hF hds hG2 hk8 (hE2 k hk) okk hc.2 g57' (by omega)
      rw [show zobj ((0 : Int32), YW J A2 s Q).2 39 9 = some _ from wo_M J A2 s Q, Option.bind_some, show f_Model_isDescribed F 39 (nI k) ((0 : Int32), YW J A2 s Q).2 = _ from hbe, Option.bind_some]
      by_cases c2 : dscP L es[k] (c + es[k] 4)
      · have q2 : (if dscP L es[k] (c + es[k] 4) then (1 : Int32) else 0) = 1 := if_pos c2
        rw [q2, if_neg (show ¬ ((1 : Int32), YW J A2 s Q).1 = 0 from by show ¬ (1 : Int32) = 0; decide), if_pos c2]
        have a4 : aget (YW J A2 s Q) 52 (nI k) = some (nI (es[k] 4)) := ag_ (by decide) (by omega) (hE2 k hk 4 (by decide))
        rw [show getR ((1 : Int32), YW J A2 s Q).2 39 9 24 = some 52 from rfl, Option.bind_some, show aget ((1 : Int32), YW J A2 s Q).2 52 (nI k) = _ from a4, Option.bind_some]
        have e3 : putI ((1 : Int32), YW J A2 s Q).2 39 9 8 (nI (es[k] 4)) = some (YW (pj J 39 8 (nI (es[k] 4))) A2 s Q) := by simp only [wp_M]
        rw [e3, Option.bind_some]
        obtain ⟨k0, k0', k1, k2, k3, k4, k5, k6⟩ := okk
        obtain ⟨J', A', q, f, g⟩ := m_42 (F := F) (J := pj J 39 8 (nI (es[k] 4))) (A := A2) (s := s) (Q := Q) (E := es[k]) (c := c) hF (hG2.pj (Or.inr (by decide))) (by rw [o2 47 (by decide) (by decide), l1.2.1 47 (by decide) (by decide)]; exact h47) hk8 (hE2 k hk) k5 k2 g57' (by omega) pj_s F 0 (Nat.zero_le _) (by omega)
        rw [List.take_zero, wr_nil, ud_id rfl, show (nI 0 : Int32) = 0 from rfl] at q
        rw [q]
        have mf3 : mff J A2 (pj J 39 8 (nI (es[k] 4))) A2 := ⟨S2, fun o ho => pj_row ho, fun j a b d e => pj_k b, fun _ _ => rfl⟩
        exact ⟨J', A', rfl, (mf2.tr mf3).tr f, g⟩
      · have q2 : (if dscP L es[k] (c + es[k] 4) then (1 : Int32) else 0) = 0 := if_neg c2
        rw [q2, if_pos (show ((0 : Int32), YW J A2 s Q).1 = 0 from rfl), if_neg c2]
        exact ⟨J, A2, rfl, mf2, fun q => absurd (show (5 : Nat) = 0 from q) (by decide)⟩
end Mf2
