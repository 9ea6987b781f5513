/-! Faults of an entry, by the class. -/
def eD (es : List Ent) (i : Nat) : Ent := es.getD i (fun _ => 0)
def ovB (L : List Int32) (ds : Nat) (Ej Ek : Ent) (en : Nat) : Bool := match locS L ds Ej with
  | none => false
  | some c => decide (Ej 6 < en) && decide (Ek 6 < endE Ej c)
def mtB (L : List Int32) (ds : Nat) (es : List Ent) (k en : Nat) : Nat → Bool
  | 0 => false
  | j + 1 => mtB L ds es k en j || ovB L ds (eD es j) (eD es k) en
abbrev dscP (L : List Int32) (E : Ent) (q : Nat) : Prop := E 1 = 8 → nvL L q 4 = 134695760 ∧ nvL L (q + 4) 4 = E 3 ∧ nvL L (q + 8) 4 = E 4 ∧ nvL L (q + 12) 4 = E 5
def cnS (L : List Int32) (E : Ent) (c : Nat) : Option (List Int32) := if E 2 = 8 then unS (slc L c (c + E 4)) else if E 4 = E 5 then some (slc L c (c + E 4)) else none
def ftE (E : Ent) : Option (List Int32) → Nat × List Int32
  | none => (6, [])
  | some O => if O.length = E 5 then (if crcL O = nI (E 3) then (0, O) else (8, [])) else (7, [])
def ftC (L : List Int32) (ds : Nat) (es : List Ent) (k : Nat) : Option Nat → Nat × List Int32
  | none => (3, [])
  | some c => if ds < endE (eD es k) c ∨ mtB L ds es k (endE (eD es k) c) k = true then (4, []) else if dscP L (eD es k) (c + eD es k 4) then ftE (eD es k) (cnS L (eD es k) c) else (5, [])
def ftS (L : List Int32) (ds : Nat) (es : List Ent) (k : Nat) : Nat × List Int32 := ftC L ds es k (locS L ds (eD es k))
theorem eD_at {es : List Ent} {i : Nat} (h : i < es.length) : eD es i = es[i] := by
  unfold eD
  rw [List.getD_eq_getElem?_getD, List.getElem?_eq_getElem h]
  rfl
theorem mtB_mono {L : List Int32} {ds : Nat} {es : List Ent} {k en : Nat} : ∀ {i j : Nat}, i ≤ j → mtB L ds es k en i = true → mtB L ds es k en j = true := by
  intro i j h
  induction h with
  | refl => exact id
  | step _ ih =>
    intro q
    show (mtB L ds es k en _ || _) = true
    rw [ih q]
    rfl
theorem ftE_le (E : Ent) (o : Option (List Int32)) : (ftE E o).1 ≤ 8 := by
  unfold ftE
  split
  · decide
  · split
    · split
      · exact Nat.zero_le _
      · decide
    · decide
theorem ftS_le {L : List Int32} {ds : Nat} {es : List Ent} {k : Nat} : (ftS L ds es k).1 ≤ 8 := by
  unfold ftS ftC
  split
  · decide
  · split
    · decide
    · split
      · exact ftE_le _ _
      · decide
/-- what a fault leaves as it was -/
def cff (J : yJ) (A : yA) (J' : yJ) (A' : yA) : Prop := Sh A' ∧ (∀ o, o ≠ 7 → o ≠ 10 → o ≠ 25 → J' o = J o) ∧ ∀ j, j < 8 ∨ 23 < j → A' j = A j
theorem slc_le {L : List Int32} {p q : Nat} : (slc L p q).length ≤ q - p := List.length_take_le _ _
section Cf2
variable {J : yJ} {A : yA} {s : Nat} {Q : zW} {L : List Int32} {F k ds : Nat} {es : List Ent}
theorem c_endOf {E : Ent} (hk : k < 8) (hE : ∀ j, j < 9 → J (27 + k) j = nI (E j)) (hok : okE ds E) {c : Nat} : f_Archive_endOf F 24 (27 + k) (nI c) (YW J A s Q) = some (nI (endE E c), YW J A s Q) := by
  obtain ⟨k0, k0', k1, k2, k3, k4, k5, k6⟩ := hok
  unfold f_Archive_endOf b_Archive_endOf_0 b_Archive_endOf_21 endE
  rw [we_g _ _ _ _ hk (by decide), Option.bind_some, we_g _ _ _ _ hk (by decide), Option.bind_some, hE 4 (by decide), hE 1 (by decide), nI_add]
  rcases k1 with e | e
  · rw [e, if_neg (by decide), show (0 : Int32) = nI 0 from rfl, nI_add]
  · rw [e, if_pos (by decide), show (16 : Int32) = nI 16 from rfl, nI_add]
theorem c_far_l (hF : 20000 ≤ F) (hk : k < es.length) (h8 : es.length ≤ 8) (hok : ∀ E ∈ es, okE ds E) (hds : ds ≤ L.length) {en : Nat} (hen : en ≤ ds) : ∀ (m i : Nat) (J : yJ), FI J A L → CE J es → J 24 4 = nI ds → i ≤ k → k - i < m → mtB L ds es k en i = false → ∃ J', l_Archive_goesTooFar_25 F m 24 (nI k) (nI en) (nI i) (YW J A s Q) = some (bI (mtB L ds es k en k), YW J' A s Q) ∧ ∀ o, o ≠ 25 → J' o = J o := by
  intro m
  induction m with
  | zero => intro i J _ _ _ _ h; omega
  | succ m ih =>
    intro i J h hE h24 hi hm hno
    have hl := h.2.2.2.1
    show ∃ J', b_Archive_goesTooFar_25 F (l_Archive_goesTooFar_25 F m) 24 (nI k) (nI en) (nI i) (YW J A s Q) = _ ∧ _
    unfold b_Archive_goesTooFar_25 b_Archive_goesTooFar_91
    by_cases hlt : i < k
    · have hi8 : i < 8 := by omega
      have hk8 : k < 8 := by omega
      have hi' : i < es.length := by omega
      have oki := hok es[i] (List.getElem_mem hi')
      have okk := hok es[k] (List.getElem_mem hk)
      rw [if_neg (nI_ge hlt (by omega))]
      simp only [wg_A, Option.bind_some, w_ent _ _ _ _ hi8, wo_A]
      obtain ⟨J1, e1, o1⟩ := c_content (F := F) (s := s) (Q := Q) (E := es[i]) hF h hi8 (hE i hi') oki h24 hds
      have hE1 : CE J1 es := fun a ha j hj => by rw [o1 (27 + a) (by omega)]; exact hE a ha j hj
      have h241 : J1 24 4 = nI ds := by rw [o1 24 (by decide)]; exact h24
      have hF1 := h.eq (o1 3 (by decide))
      have emt : mtB L ds es k en (i + 1) = ovB L ds es[i] es[k] en := by
        show (mtB L ds es k en i || ovB L ds (eD es i) (eD es k) en) = _
        rw [hno, Bool.false_or, eD_at hi', eD_at hk]
      have next : ovB L ds es[i] es[k] en = false → ∃ J', l_Archive_goesTooFar_25 F m 24 (nI k) (nI en) (nI i + 1) (YW J1 A s Q) = some (bI (mtB L ds es k en k), YW J' A s Q) ∧ ∀ o, o ≠ 25 → J' o = J o := by
        intro q
        rw [nI_1]
        obtain ⟨J', e, o⟩ := ih (i + 1) J1 hF1 hE1 h241 (by omega) (by omega) (by rw [emt]; exact q)
        exact ⟨J', e, fun x hx => (o x hx).trans (o1 x hx)⟩
      unfold ovB at next emt
      cases hl' : locS L ds es[i] with
      | none =>
        rw [hl'] at next e1
        rw [e1, show opI none = -1 from rfl, Option.bind_some]
        simp only []
        rw [if_pos trivial]
        exact next rfl
      | some c =>
        have hc := locS_le hl'
        rw [hl'] at next emt e1
        rw [e1, show opI (some c) = nI c from rfl, Option.bind_some]
        simp only [] at next emt ⊢
        rw [if_neg (nI_neg1 (by omega))]
        simp only [wg_A, Option.bind_some, w_ent _ _ _ _ hi8, w_ent _ _ _ _ hk8, we_g _ _ _ _ hi8 (show 6 < 9 by decide), we_g _ _ _ _ hk8 (show 6 < 9 by decide), hE1 i hi' 6 (by decide), hE1 k hk 6 (by decide), wo_A, c_endOf hi8 (hE1 i hi') oki]
        obtain ⟨-, -, i1, -, -, i4, -, i6⟩ := oki
        obtain ⟨-, -, -, -, -, -, -, k6⟩ := okk
        by_cases c1 : es[i] 6 < en
        · rw [if_neg (nI_ge c1 (by omega))]
          by_cases c2 : es[k] 6 < endE es[i] c
          · rw [if_neg (nI_ge c2 (by unfold endE; omega))]
            refine ⟨J1, ?_, o1⟩
            rw [mtB_mono (i := i + 1) (by omega) (by rw [emt, decide_eq_true c1, decide_eq_true c2]; rfl)]
            rfl
          · rw [if_pos (nI_le (by omega) (by omega))]
            exact next (by rw [decide_eq_false c2, Bool.and_false])
        · rw [if_pos (nI_le (by omega) (by omega))]
          exact next (by rw [decide_eq_false c1, Bool.false_and])
    · have ei : i = k := by omega
      subst ei
      rw [if_pos (nI_le (by omega) (by omega)), hno]
      exact ⟨J, rfl, fun _ _ => rfl⟩
/-- goesTooFar -/
theorem c_far (hF : 20000 ≤ F) (h : FI J A L) (hE : CE J es) (h24 : J 24 4 = nI ds) (hk : k < es.length) (h8 : es.length ≤ 8) (hok : ∀ E ∈ es, okE ds E) (hds : ds ≤ L.length) {c : Nat} (hc : c ≤ ds) : ∃ J', f_Archive_goesTooFar F 24 (nI k) (nI c) (YW J A s Q) = some (if ds < endE es[k] c ∨ mtB L ds es k (endE es[k] c) k = true then 1 else 0, YW J' A s Q) ∧ ∀ o, o ≠ 25 → J' o = J o := by
  have hl := h.2.2.2.1
  have hk8 : k < 8 := by omega
  have okk := hok es[k] (List.getElem_mem hk)
  have hend : endE es[k] c < 2 ^ 20 := by
    obtain ⟨-, -, i1, -, -, i4, -, i6⟩ := okk
    unfold endE
    omega
  unfold f_Archive_goesTooFar b_Archive_goesTooFar_0
  simp only [wg_A, wo_A, Option.bind_some, w_ent _ _ _ _ hk8, c_endOf hk8 (hE k hk) okk, h24]
  by_cases c1 : endE es[k] c ≤ ds
  · rw [if_pos (nI_le c1 (by omega))]
    obtain ⟨J', e, o⟩ := c_far_l (F := F) (s := s) (Q := Q) hF hk h8 hok hds c1 F 0 J h hE h24 (Nat.zero_le _) (by omega) rfl
    rw [show (nI 0 : Int32) = 0 from rfl] at e
    refine ⟨J', ?_, o⟩
    rw [e]
    cases hm : mtB L ds es k (endE es[k] c) k with
    | true => rw [if_pos (Or.inr rfl)]; rfl
    | false =>
      rw [if_neg (by rintro (q | q); omega; cases q)]
      rfl
  · rw [if_neg (nI_ge (by omega) (by omega)), if_pos (Or.inl (by omega))]
    exact ⟨J, rfl, fun _ _ => rfl⟩
/-- saidBehind -/
theorem c_behind {E : Ent} (hF : 20000 ≤ F) (hd : ds ≤ L.length) (h : FI J A L) (hk : k < 8) (hE : ∀ j, j < 9 → J (27 + k) j = nI (E j)) (hok : okE ds E) {q : Nat} (hq : E 1 = 8 → q + 16 ≤ L.length) : f_Archive_saidBehind F 24 (27 + k) (nI q) (YW J A s Q) = some (if dscP L E q then 1 else 0, YW J A s Q) := by
  obtain ⟨k0, k0', k1, k2, k3, k4, k5, k6⟩ := hok
  have hb := h.2.2.2.2
  have z4 : ∀ q, nvL L q 4 < 2 ^ 32 := fun q => nvL_32 hb
  have n4 : ∀ q, q + 4 ≤ L.length → f_Row_number F 3 (nI q) 4 (YW J A s Q) = some (lN_ (nvL L q 4), YW J A s Q) := fun q hq => W_number (n := 4) hF h hq (by decide)
  have ge : ∀ j, j < 9 → getI (YW J A s Q) (27 + k) 1 j = some (nI (E j)) := fun j hj => by rw [we_g _ _ _ _ hk hj, hE j hj]
  have hl := h.2.2.2.1
  unfold f_Archive_saidBehind b_Archive_saidBehind_0 b_Archive_saidBehind_86 b_Archive_saidBehind_90
  rw [ge 1 (by decide), Option.bind_some]
  by_cases e8 : E 1 = 8
  · have hq' := hq e8
    rw [if_pos (show nI (E 1) = (8 : Int32) by rw [e8]; rfl)]
    simp only [wg_A, Option.bind_some, R_o hr3, n4 q (by omega), ge 3 (by decide), ge 4 (by decide), ge 5 (by decide)]
    rw [show nI q + (4 : Int32) = nI (q + 4) from nI_add _ 4, show nI q + (8 : Int32) = nI (q + 8) from nI_add _ 8, show nI q + (12 : Int32) = nI (q + 12) from nI_add _ 12]
    simp only [n4 (q + 4) (by omega), n4 (q + 8) (by omega), n4 (q + 12) (by omega), Option.bind_some, ln_i32, wg_A, R_o hr3, ge 3 (by decide), ge 4 (by decide), ge 5 (by decide)]
    rw [ex_bv (k := E 4) (by omega), ex_bv (k := E 5) (by omega), show (134695760 : Int64) = lN_ 134695760 from rfl]
    have a1 := z4 q
    have a2 := z4 (q + 4)
    have a3 := z4 (q + 8)
    have a4 := z4 (q + 12)
    by_cases c1 : nvL L q 4 = 134695760
    · rw [if_pos ((lg_ln (by omega) (by decide)).mpr c1)]
      by_cases c2 : nvL L (q + 4) 4 = E 3
      · rw [if_pos (by rw [c2])]
        by_cases c3 : nvL L (q + 8) 4 = E 4
        · rw [if_pos ((lg_ln (by omega) (by omega)).mpr c3)]
          by_cases c4 : nvL L (q + 12) 4 = E 5
          · rw [if_pos ((lg_ln (by omega) (by omega)).mpr c4), if_pos (fun _ => ⟨c1, c2, c3, c4⟩)]
          · rw [if_neg (fun z => c4 ((lg_ln (by omega) (by omega)).mp z)), if_neg (fun z => c4 (z e8).2.2.2)]
        · rw [if_neg (fun z => c3 ((lg_ln (by omega) (by omega)).mp z)), if_neg (fun z => c3 (z e8).2.2.1)]
      · rw [if_neg (fun z => c2 ((nI_eq32 a2 k3).mp z)), if_neg (fun z => c2 (z e8).2.1)]
    · rw [if_neg (fun z => c1 ((lg_ln (by omega) (by decide)).mp z)), if_neg (fun z => c1 (z e8).1)]
  · rw [if_neg (show ¬ nI (E 1) = (8 : Int32) from fun q => e8 ((nI_eq (b := 8) (by omega) (by decide)).mp q)), if_pos (fun z => absurd z e8)]
/-- givesOut -/
theorem c_gives {E : Ent} (hF : 20000 ≤ F) (h : FI J A L) (hk : k < 8) (hE : ∀ j, j < 9 → J (27 + k) j = nI (E j)) (hok : okE ds E) {c : Nat} (hc : c + E 4 ≤ L.length) : (∀ O, cnS L E c = some O → ∃ J' A' s', f_Zip_givesOut F 0 (27 + k) (nI c) (YW J A s Q) = some (1, YW J' A' s' Q) ∧ cfr J A J' A' ∧ J' 7 1 = nI O.length ∧ (A' 8).take O.length = O) ∧ (cnS L E c = none → ∃ J' A' s', f_Zip_givesOut F 0 (27 + k) (nI c) (YW J A s Q) = some (0, YW J' A' s' Q) ∧ cfr J A J' A') := by
  obtain ⟨k0, k0', k1, k2, k3, k4, k5, k6⟩ := hok
  obtain ⟨hS, h3, h4, hl, hb⟩ := h
  have ge : ∀ (J1 : yJ) (A1 : yA), J1 (27 + k) = J (27 + k) → ∀ j, j < 9 → getI (YW J1 A1 s Q) (27 + k) 1 j = some (nI (E j)) := fun J1 A1 e j hj => by rw [we_g _ _ _ _ hk hj, e, hE j hj]
  have hC : (slc L c (c + E 4)).length = E 4 := by rw [slc_len hc]; omega
  unfold f_Zip_givesOut b_Zip_givesOut_0 cnS
  simp only [ge J A rfl 2 (by decide), Option.bind_some]
  by_cases e8 : E 2 = 8
  · rw [if_pos (show nI (E 2) = (8 : Int32) by rw [e8]; rfl), if_pos e8]
    simp only [wg_Z, wo_U, Option.bind_some, ge J A rfl 4 (by decide)]
    rw [nI_add]
    have hu := c_unpacks (F := F) (J := J) (A := A) (s := s) (Q := Q) (r := 3) (a := 4) (st := c) (C := slc L c (c + E 4)) hF hS hr3 (by decide) (by decide) (isB_slc hb) ⟨L.length, h3, by omega, hl⟩ (by
      intro i hi
      rw [hC] at hi
      unfold slc
      rw [List.getElem?_take_of_lt (by omega), List.getElem?_drop, take_get h4 (by omega), List.getElem?_eq_getElem])
    rw [hC] at hu
    refine ⟨?_, ?_⟩
    · intro O e
      obtain ⟨J', A', q1, q2, q3, q4⟩ := hu.1 O e
      rw [q1, Option.bind_some]
      simp only []
      rw [if_pos (Or.inr trivial)]
      exact ⟨J', A', 3, rfl, q2, q3, q4⟩
    · intro e
      obtain ⟨J', A', q1, q2⟩ := hu.2 e
      rw [q1, Option.bind_some]
      simp only []
      rw [if_pos (Or.inl trivial)]
      exact ⟨J', A', 3, rfl, q2⟩
  · rw [if_neg (show ¬ nI (E 2) = (8 : Int32) from fun q => e8 ((nI_eq (b := 8) (by omega) (by decide)).mp q)), if_neg e8]
    simp only [wg_Z, wo_R, Option.bind_some, W_empty r78]
    have hcf : cfr J A (pj (pj J 7 1 0) 7 2 0) A := ((cfr.rf hS).pj (Or.inl rfl)).pj (Or.inl rfl)
    have e27 : pj (pj J 7 1 0) 7 2 0 (27 + k) = J (27 + k) := by rw [pj_row (by omega), pj_row (by omega)]
    simp only [ge _ A e27 4 (by decide), ge _ A e27 5 (by decide), Option.bind_some]
    by_cases c1 : E 4 = E 5
    · rw [if_pos (show nI (E 4) = nI (E 5) by rw [c1]), if_pos c1]
      refine ⟨?_, fun e => (by cases e)⟩
      intro O e
      cases e
      have hp := W_part (F := F) (J := pj (pj J 7 1 0) 7 2 0) (A := A) (s := s) (Q := Q) (n := 0) (p := c) (q := c + E 5) (m := L.length) r78 hr3 hS (by rw [pj_k (by decide), pj_s]; rfl) (Nat.zero_le _) (by rw [pj_o (by decide), pj_o (by decide)]; exact h3) hl (by omega) (by omega) (by show 0 + (c + E 5 - c) ≤ 200; omega)
      rw [nI_add, hp, Option.bind_some]
      have h8 : (A 8).length = 200 := hS 8
      have ex : ((A 4).drop c).take (c + E 5 - c) = slc L c (c + E 4) := by
        unfold slc
        rw [← c1, ← h4, List.drop_take, List.take_take, Nat.min_eq_left (by omega)]
      rw [ex]
      unfold ra
      refine ⟨_, _, s, rfl, (hcf.pj (Or.inl rfl)).ud (by decide) (wr_len (by omega)), ?_, ?_⟩
      · rw [pj_s, Nat.zero_add]
      · rw [ud_s]; exact wr0_take (by omega)
    · rw [if_neg (show ¬ nI (E 4) = nI (E 5) from fun z => c1 ((nI_eq (by omega) (by omega)).mp z)), if_neg c1]
      exact ⟨fun O e => (by cases e), fun _ => ⟨_, _, s, rfl, hcf⟩⟩
theorem cn_ok {E : Ent} {O : List Int32} {c : Nat} (hb : ∀ b ∈ L, isB b) (h : cnS L E c = some O) (h4 : E 4 ≤ 1600) : O.length ≤ 1600 ∧ ∀ b ∈ O, isB b := by
  unfold cnS at h
  split at h
  · have := unS_ok (isB_slc hb) h
    exact ⟨by omega, this.2⟩
  · split at h
    · cases h
      exact ⟨Nat.le_trans slc_le (by omega), isB_slc hb⟩
    · cases h
/-- from what is given out on -/
theorem c_ft1 {E : Ent} (hF : 20000 ≤ F) (h : FI J A L) (hk : k < 8) (hE : ∀ j, j < 9 → J (27 + k) j = nI (E j)) (hok : okE ds E) (hds : ds ≤ L.length) {c : Nat} (hc : c + E 4 ≤ L.length) : ∃ J' A' s', ((f_Zip_givesOut F 0 (27 + k) (nI c) (YW J A s Q)).bind fun r62 => if r62.1 = 0 then (some ((6 : Int32), r62.2)) else ((getR r62.2 0 8 3).bind fun x72 => (getI r62.2 x72 0 1).bind fun x75 => (getI r62.2 (27 + k) 1 5).bind fun x79 => if x75 = x79 then ((getR r62.2 0 8 3).bind fun x89 => (zobj r62.2 x89 0).bind fun _ => (f_Row_checksum F x89 r62.2).bind fun r92 => (getI r92.2 (27 + k) 1 3).bind fun x96 => if r92.1 = x96 then (some ((0 : Int32), r92.2)) else (some ((8 : Int32), r92.2))) else (some ((7 : Int32), r62.2)))) = some (nI (ftE E (cnS L E c)).1, YW J' A' s' Q) ∧ cfr J A J' A' ∧ ((ftE E (cnS L E c)).1 = 0 → J' 7 1 = nI (ftE E (cnS L E c)).2.length ∧ (A' 8).take (ftE E (cnS L E c)).2.length = (ftE E (cnS L E c)).2 ∧ (ftE E (cnS L E c)).2.length ≤ 200 ∧ ∀ b ∈ (ftE E (cnS L E c)).2, isB b) := by
  have hl := h.2.2.2.1
  have hb := h.2.2.2.2
  have hg := c_gives (F := F) (s := s) (Q := Q) (ds := ds) hF h hk hE hok hc
  obtain ⟨k0, k0', k1, k2, k3, k4, k5, k6⟩ := hok
  have hcn := fun O (q : cnS L E c = some O) => cn_ok (E := E) (c := c) hb q (by omega)
  generalize cnS L E c = R at hg hcn
  cases R with
  | none =>
    obtain ⟨J3, A3, s3, e3, f3⟩ := hg.2 rfl
    rw [e3, Option.bind_some, if_pos (show ((0 : Int32), YW J3 A3 s3 Q).1 = 0 from rfl)]
    exact ⟨J3, A3, s3, rfl, f3, fun q => absurd (show (6 : Nat) = 0 from q) (by decide)⟩
  | some O =>
    obtain ⟨J3, A3, s3, e3, f3, g1, g2⟩ := hg.1 O rfl
    have hO := hcn O rfl
    have hE3 : ∀ j, j < 9 → J3 (27 + k) j = nI (E j) := fun j hj => by rw [f3.2.1 (27 + k) (by omega) (by omega)]; exact hE j hj
    have ge : ∀ j, j < 9 → getI (YW J3 A3 s3 Q) (27 + k) 1 j = some (nI (E j)) := fun j hj => by rw [we_g _ _ _ _ hk hj, hE3 j hj]
    have gz : getR (YW J3 A3 s3 Q) 0 8 3 = some 7 := rfl
    have gs : getI (YW J3 A3 s3 Q) 7 0 1 = some (nI O.length) := by rw [R_1 r78, g1]
    rw [e3, Option.bind_some, if_neg (show ¬ ((1 : Int32), YW J3 A3 s3 Q).1 = 0 from by show ¬ (1 : Int32) = 0; decide)]
    have e6 : ftE E (some O) = if O.length = E 5 then (if crcL O = nI (E 3) then (0, O) else (8, [])) else (7, []) := rfl
    rw [e6]
    have step : ∀ w, w = YW J3 A3 s3 Q → ((getR w 0 8 3).bind fun x72 => (getI w x72 0 1).bind fun x75 => (getI w (27 + k) 1 5).bind fun x79 => if x75 = x79 then ((getR w 0 8 3).bind fun x89 => (zobj w x89 0).bind fun _ => (f_Row_checksum F x89 w).bind fun r92 => (getI r92.2 (27 + k) 1 3).bind fun x96 => if r92.1 = x96 then (some ((0 : Int32), r92.2)) else (some ((8 : Int32), r92.2))) else (some ((7 : Int32), w))) = some (nI (if O.length = E 5 then (if crcL O = nI (E 3) then 0 else 8) else 7), YW J3 A3 s3 Q) := by
      intro w hw
      subst hw
      rw [gz, Option.bind_some, gs, Option.bind_some, ge 5 (by decide), Option.bind_some]
      by_cases c3 : O.length = E 5
      · rw [if_pos (show nI O.length = nI (E 5) by rw [c3]), if_pos c3, Option.bind_some, R_o r78, Option.bind_some, show f_Row_checksum F 7 (YW J3 A3 s3 Q) = some (crcL O, YW J3 A3 s3 Q) from rw_crc F hF (R_rw r78 f3.1 g1 g2), Option.bind_some]
        have e8 : ∀ z : Int32, ((getI ((z, YW J3 A3 s3 Q) : Int32 × zW).2 (27 + k) 1 3).bind fun x96 => if ((z, YW J3 A3 s3 Q) : Int32 × zW).1 = x96 then (some ((0 : Int32), ((z, YW J3 A3 s3 Q) : Int32 × zW).2)) else (some ((8 : Int32), ((z, YW J3 A3 s3 Q) : Int32 × zW).2))) = some (if z = nI (E 3) then 0 else 8, YW J3 A3 s3 Q) := by
          intro z
          show ((getI (YW J3 A3 s3 Q) (27 + k) 1 3).bind fun x96 => if z = x96 then (some ((0 : Int32), YW J3 A3 s3 Q)) else (some ((8 : Int32), YW J3 A3 s3 Q))) = _
          rw [ge 3 (by decide), Option.bind_some]
          by_cases c4 : z = nI (E 3)
          · rw [if_pos c4, if_pos c4]
          · rw [if_neg c4, if_neg c4]
        rw [e8 (crcL O)]
        by_cases c4 : crcL O = nI (E 3)
        · rw [if_pos c4, if_pos c4]; rfl
        · rw [if_neg c4, if_neg c4]; rfl
      · rw [if_neg (show ¬ nI O.length = nI (E 5) from fun z => c3 ((nI_eq (by omega) (by omega)).mp z)), if_neg c3]
        rfl
    refine ⟨J3, A3, s3, ?_, f3, ?_⟩
    · rw [step _ rfl]
      by_cases c3 : O.length = E 5
      · rw [if_pos c3, if_pos c3]
        by_cases c4 : crcL O = nI (E 3)
        · rw [if_pos c4, if_pos c4]
        · rw [if_neg c4, if_neg c4]
      · rw [if_neg c3, if_neg c3]
    · by_cases c3 : O.length = E 5
      · rw [if_pos c3]
        by_cases c4 : crcL O = nI (E 3)
        · rw [if_pos c4]
          exact fun _ => ⟨g1, g2, show O.length ≤ 200 by omega, hO.2⟩
        · rw [if_neg c4]
          exact fun q => absurd (show (8 : Nat) = 0 from q) (by decide)
      · rw [if_neg c3]
        exact fun q => absurd (show (7 : Nat) = 0 from q) (by decide)
/-- from what is said behind on -/
theorem c_ft2 {E : Ent} (hF : 20000 ≤ F) (h : FI J A L) (hk : k < 8) (hE : ∀ j, j < 9 → J (27 + k) j = nI (E j)) (hok : okE ds E) (hds : ds ≤ L.length) {c : Nat} (hc : endE E c ≤ ds) : ∃ J' A' s', ((getR (YW J A s Q) 0 8 6).bind fun x41 => (getI (YW J A s Q) (27 + k) 1 4).bind fun x47 => (zobj (YW J A s Q) x41 6).bind fun _ => (f_Archive_saidBehind F x41 (27 + k) (nI c + x47) (YW J A s Q)).bind fun r51 => if r51.1 = 0 then (some ((5 : Int32), r51.2)) else ((zobj r51.2 0 8).bind fun _ => (f_Zip_givesOut F 0 (27 + k) (nI c) r51.2).bind fun r62 => if r62.1 = 0 then (some ((6 : Int32), r62.2)) else ((getR r62.2 0 8 3).bind fun x72 => (getI r62.2 x72 0 1).bind fun x75 => (getI r62.2 (27 + k) 1 5).bind fun x79 => if x75 = x79 then ((getR r62.2 0 8 3).bind fun x89 => (zobj r62.2 x89 0).bind fun _ => (f_Row_checksum F x89 r62.2).bind fun r92 => (getI r92.2 (27 + k) 1 3).bind fun x96 => if r92.1 = x96 then (some ((0 : Int32), r92.2)) else (some ((8 : Int32), r92.2))) else (some ((7 : Int32), r62.2))))) = some (nI (if dscP L E (c + E 4) then ftE E (cnS L E c) else (5, [])).1, YW J' A' s' Q) ∧ cfr J A J' A' ∧ ((if dscP L E (c + E 4) then ftE E (cnS L E c) else (5, [])).1 = 0 → J' 7 1 = nI (if dscP L E (c + E 4) then ftE E (cnS L E c) else (5, [])).2.length ∧ (A' 8).take (if dscP L E (c + E 4) then ftE E (cnS L E c) else (5, [])).2.length = (if dscP L E (c + E 4) then ftE E (cnS L E c) else (5, [])).2 ∧ (if dscP L E (c + E 4) then ftE E (cnS L E c) else (5, [])).2.length ≤ 200 ∧ ∀ b ∈ (if dscP L E (c + E 4) then ftE E (cnS L E c) else (5, [])).2, isB b) := by
  have hend : c + E 4 + 2 * E 1 ≤ ds := hc
  have hbe := c_behind (F := F) (s := s) (Q := Q) (ds := ds) (q := c + E 4) hF hds h hk hE hok (by omega)
  obtain ⟨J', A', s', e, f, g⟩ := c_ft1 (F := F) (s := s) (Q := Q) (ds := ds) (c := c) hF h hk hE hok hds (by omega)
  rw [show getR (YW J A s Q) 0 8 6 = some 24 from rfl, Option.bind_some, we_g _ _ _ _ hk (by decide), hE 4 (by decide), Option.bind_some, wo_A, Option.bind_some, nI_add, hbe, Option.bind_some]
  by_cases c2 : dscP L E (c + E 4)
  · have e1 : (if dscP L E (c + E 4) then (1 : Int32) else 0) = 1 := if_pos c2
    have e2 : (if dscP L E (c + E 4) then ftE E (cnS L E c) else (5, [])) = ftE E (cnS L E c) := if_pos c2
    rw [e1, e2, if_neg (show ¬ ((1 : Int32), YW J A s Q).1 = 0 from by show ¬ (1 : Int32) = 0; decide)]
    exact ⟨J', A', s', e, f, g⟩
  · have e1 : (if dscP L E (c + E 4) then (1 : Int32) else 0) = 0 := if_neg c2
    have e2 : (if dscP L E (c + E 4) then ftE E (cnS L E c) else (5, [])) = (5, []) := if_neg c2
    rw [e1, e2, if_pos (show ((0 : Int32), YW J A s Q).1 = 0 from rfl)]
    exact ⟨J, A, s, rfl, cfr.rf h.1, fun q => absurd (show (5 : Nat) = 0 from q) (by decide)⟩
/-- faultOf -/
theorem c_fault (hF : 20000 ≤ F) (h : FI J A L) (hE : CE J es) (h24 : J 24 4 = nI ds) (hk : k < es.length) (h8 : es.length ≤ 8) (hok : ∀ E ∈ es, okE ds E) (hds : ds ≤ L.length) : ∃ J' A' s', f_Zip_faultOf F 0 (nI k) (YW J A s Q) = some (nI (ftS L ds es k).1, YW J' A' s' Q) ∧ cff J A J' A' ∧ ((ftS L ds es k).1 = 0 → J' 7 1 = nI (ftS L ds es k).2.length ∧ (A' 8).take (ftS L ds es k).2.length = (ftS L ds es k).2 ∧ (ftS L ds es k).2.length ≤ 200 ∧ ∀ b ∈ (ftS L ds es k).2, isB b) := by
  have hl := h.2.2.2.1
  have hS := h.1
  have hk8 : k < 8 := by omega
  have okk := hok es[k] (List.getElem_mem hk)
  obtain ⟨J1, e1, o1⟩ := c_content (F := F) (s := s) (Q := Q) (E := es[k]) hF h hk8 (hE k hk) okk h24 hds
  have cf1 : cff J A J1 A := ⟨hS, fun o _ _ ho => o1 o ho, fun _ _ => rfl⟩
  have hfs : ftS L ds es k = ftC L ds es k (locS L ds es[k]) := by unfold ftS; rw [eD_at hk]
  rw [hfs]
  unfold f_Zip_faultOf b_Zip_faultOf_0
  rw [show getR (YW J A s Q) 0 8 6 = some 24 from rfl, Option.bind_some, show getR (YW J A s Q) 24 6 2 = some 26 from rfl, Option.bind_some, w_ent _ _ _ _ hk8, Option.bind_some, Option.bind_some, wo_A, Option.bind_some, e1, Option.bind_some]
  cases hloc : locS L ds es[k] with
  | none =>
    rw [show opI none = -1 from rfl, if_pos (show ((-1 : Int32), YW J1 A s Q).1 = -1 from rfl)]
    exact ⟨J1, A, s, rfl, cf1, fun q => absurd (show (3 : Nat) = 0 from q) (by decide)⟩
  | some c =>
    have hc := locS_le hloc
    rw [show opI (some c) = nI c from rfl, if_neg (show ¬ (nI c, YW J1 A s Q).1 = -1 from nI_neg1 (by omega))]
    have hE1 : CE J1 es := fun a ha j hj => by rw [o1 (27 + a) (by omega)]; exact hE a ha j hj
    have hF1 := h.eq (o1 3 (by decide))
    obtain ⟨J2, e2, o2⟩ := c_far (F := F) (s := s) (Q := Q) hF hF1 hE1 (by rw [o1 24 (by decide)]; exact h24) hk h8 hok hds hc.2
    have o12 : ∀ o, o ≠ 25 → J2 o = J o := fun o ho => (o2 o ho).trans (o1 o ho)
    have cf2 : cff J A J2 A := ⟨hS, fun o _ _ ho => o12 o ho, fun _ _ => rfl⟩
    have hfc : ftC L ds es k (some c) = if ds < endE es[k] c ∨ mtB L ds es k (endE es[k] c) k = true then (4, []) else if dscP L es[k] (c + es[k] 4) then ftE es[k] (cnS L es[k] c) else (5, []) := by
      show (if ds < endE (eD es k) c ∨ mtB L ds es k (endE (eD es k) c) k = true then (4, []) else if dscP L (eD es k) (c + eD es k 4) then ftE (eD es k) (cnS L (eD es k) c) else (5, [])) = _
      rw [eD_at hk]
    rw [hfc]
    rw [show getR ((nI c, YW J1 A s Q) : Int32 × zW).2 0 8 6 = some 24 from rfl, Option.bind_some, show zobj ((nI c, YW J1 A s Q) : Int32 × zW).2 24 6 = some _ from wo_A J1 A s Q, Option.bind_some, show f_Archive_goesTooFar F 24 (nI k) ((nI c, YW J1 A s Q) : Int32 × zW).1 ((nI c, YW J1 A s Q) : Int32 × zW).2 = _ from e2, Option.bind_some]
    by_cases c1 : ds < endE es[k] c ∨ mtB L ds es k (endE es[k] c) k = true
    · have q1 : (if ds < endE es[k] c ∨ mtB L ds es k (endE es[k] c) k = true then (1 : Int32) else 0) = 1 := if_pos c1
      rw [q1, if_neg (show ¬ ((1 : Int32), YW J2 A s Q).1 = 0 from by show ¬ (1 : Int32) = 0; decide), if_pos c1]
      exact ⟨J2, A, s, rfl, cf2, fun q => absurd (show (4 : Nat) = 0 from q) (by decide)⟩
    · have q1 : (if ds < endE es[k] c ∨ mtB L ds es k (endE es[k] c) k = true then (1 : Int32) else 0) = 0 := if_neg c1
      rw [q1, if_pos (show ((0 : Int32), YW J2 A s Q).1 = 0 from rfl), if_neg c1]
      have hend : endE es[k] c ≤ ds := Nat.le_of_not_lt (fun q => c1 (Or.inl q))
      have hE2 : ∀ j, j < 9 → J2 (27 + k) j = nI (es[k] j) := fun j hj => by rw [o12 (27 + k) (by omega)]; exact hE k hk j hj
      obtain ⟨J', A', s', e, f, g⟩ := c_ft2 (F := F) (s := s) (Q := Q) (ds := ds) (c := c) hF (h.eq (o12 3 (by decide))) hk8 hE2 okk hds hend
      exact ⟨J', A', s', e, ⟨f.1, fun o a b d => (f.2.1 o a b).trans (o12 o d), f.2.2⟩, g⟩
end Cf2
