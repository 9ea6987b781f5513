/-! add: what is written, by the class. -/
def recB (k : Int64) (sz pk : Int32) : List Int32 := lbs 1 0 2 ++ lbs k 0 2 ++ lbs sz.toInt64 0 8 ++ lbs pk.toInt64 0 8
def behB (cr pk sz : Int32) : List Int32 := lbs 134695760 0 4 ++ lbs cr.toInt64 0 4 ++ lbs pk.toInt64 0 4 ++ lbs sz.toInt64 0 4
def locH (f me cr pk sz y : Int32) (nb : Nat) (lt fr : Bool) : List Int32 := lbs 67324752 0 4 ++ lbs 0 0 2 ++ lbs f.toInt64 0 2 ++ lbs me.toInt64 0 2 ++ lbs 0 0 4 ++ lbs (if lt then 0 else cr.toInt64) 0 4 ++ lbs (if lt then 0 else if fr then 4294967295 else pk.toInt64) 0 4 ++ lbs (if lt then 0 else if fr then 4294967295 else sz.toInt64) 0 4 ++ lbs (nI nb).toInt64 0 2 ++ lbs (if fr then 20 else 0) 0 2 ++ hbs y.toInt64 nb ++ (if fr then recB 16 sz pk else [])
def prtB (f me cr pk sz ds y : Int32) (nb : Nat) (fr : Bool) : List Int32 := lbs 33639248 0 4 ++ lbs 0 0 4 ++ lbs f.toInt64 0 2 ++ lbs me.toInt64 0 2 ++ lbs 0 0 4 ++ lbs cr.toInt64 0 4 ++ lbs (if fr then 4294967295 else pk.toInt64) 0 4 ++ lbs (if fr then 4294967295 else sz.toInt64) 0 4 ++ lbs (nI nb).toInt64 0 2 ++ lbs (if fr then 28 else 0) 0 2 ++ lbs 0 0 2 ++ lbs 0 0 8 ++ lbs (if fr then 4294967295 else ds.toInt64) 0 4 ++ hbs y.toInt64 nb ++ (if fr then recB 24 sz pk ++ lbs ds.toInt64 0 8 else [])
theorem recB_len (k : Int64) (sz pk : Int32) : (recB k sz pk).length = 20 := by unfold recB; simp only [List.length_append, lbs_len]
theorem behB_len (cr pk sz : Int32) : (behB cr pk sz).length = 16 := by
  unfold behB
  generalize (134695760 : Int64) = a
  simp only [List.length_append, lbs_len]
theorem locH_len (f me cr pk sz y : Int32) (nb : Nat) (lt fr : Bool) : (locH f me cr pk sz y nb lt fr).length = 30 + nb + (if fr then 20 else 0) := by
  unfold locH
  generalize (67324752 : Int64) = a
  generalize (if lt then 0 else cr.toInt64) = b
  generalize (if lt then 0 else if fr then 4294967295 else pk.toInt64) = c
  generalize (if lt then 0 else if fr then 4294967295 else sz.toInt64) = d
  cases fr with
  | true => simp only [List.length_append, lbs_len, hbs_len, if_true, recB_len]
  | false => simp only [List.length_append, lbs_len, hbs_len, if_false, List.length_nil, Bool.false_eq_true]
theorem prtB_len (f me cr pk sz ds y : Int32) (nb : Nat) (fr : Bool) : (prtB f me cr pk sz ds y nb fr).length = 46 + nb + (if fr then 28 else 0) := by
  unfold prtB
  generalize (33639248 : Int64) = a
  cases fr with
  | true =>
    generalize (if true then 4294967295 else pk.toInt64) = c
    simp only [List.length_append, lbs_len, hbs_len, if_true, recB_len]
  | false => simp only [List.length_append, lbs_len, hbs_len, if_false, List.length_nil, Bool.false_eq_true]
theorem isB_recB (k : Int64) (sz pk : Int32) : ∀ b ∈ recB k sz pk, isB b := by
  unfold recB
  refine isB_app (isB_app (isB_app ?_ ?_) ?_) ?_ <;> exact isB_lbs
theorem isB_behB (cr pk sz : Int32) : ∀ b ∈ behB cr pk sz, isB b := by
  unfold behB
  refine isB_app (isB_app (isB_app ?_ ?_) ?_) ?_ <;> exact isB_lbs
theorem isB_nil : ∀ b ∈ ([] : List Int32), isB b := fun b hb => by cases hb
theorem isB_locH (f me cr pk sz y : Int32) (nb : Nat) (lt fr : Bool) : ∀ b ∈ locH f me cr pk sz y nb lt fr, isB b := by
  unfold locH
  refine isB_app (isB_app (isB_app (isB_app (isB_app (isB_app (isB_app (isB_app (isB_app (isB_app (isB_app isB_lbs isB_lbs) isB_lbs) isB_lbs) isB_lbs) isB_lbs) isB_lbs) isB_lbs) isB_lbs) isB_lbs) isB_hbs) ?_
  cases fr
  · exact isB_nil
  · exact isB_recB _ _ _
theorem isB_prtB (f me cr pk sz ds y : Int32) (nb : Nat) (fr : Bool) : ∀ b ∈ prtB f me cr pk sz ds y nb fr, isB b := by
  unfold prtB
  refine isB_app (isB_app (isB_app (isB_app (isB_app (isB_app (isB_app (isB_app (isB_app (isB_app (isB_app (isB_app (isB_app (isB_app isB_lbs isB_lbs) isB_lbs) isB_lbs) isB_lbs) isB_lbs) isB_lbs) isB_lbs) isB_lbs) isB_lbs) isB_lbs) isB_lbs) isB_lbs) isB_hbs) ?_
  cases fr
  · exact isB_nil
  · exact isB_app (isB_recB _ _ _) isB_lbs
section Sa
variable {J : yJ} {A : yA} {s : Nat} {Q : zW} {F : Nat} {st : List Int32 × Int32} {n : Nat} {lt fr : Bool}
theorem dw_o38 {α : Type} (X : Option α) : ((zobj (dw J A s Q st) 38 1).bind fun _ => X) = X := rfl
theorem dw_isW (h : fr = decide (¬ J 35 1 = 0 ∧ ¬ J 38 1 = 8)) : f_Writer_isWide F 35 38 (dw J A s Q st) = some (bI fr, dw J A s Q st) := by
  unfold f_Writer_isWide b_Writer_isWide_0 b_Writer_isWide_20
  rw [dw_g.2.1, Option.bind_some, dw_38.2.1, Option.bind_some, h]
  by_cases c1 : J 35 1 = 0
  · rw [if_pos c1, decide_eq_false (fun q => q.1 c1)]; rfl
  · rw [if_neg c1]
    by_cases c2 : J 38 1 = 8
    · rw [if_pos c2, decide_eq_false (fun q => q.2 c2)]; rfl
    · rw [if_neg c2, decide_eq_true ⟨c1, c2⟩]; rfl
theorem dw_rec (hF : 20000 ≤ F) (hS : Sh A) (k : Int32) : f_Writer_writeRecord F 35 38 k (dw J A s Q st) = some ((), dw J A s Q (sN st (recB k.toInt64 (J 38 5) (J 38 4)))) := by
  unfold f_Writer_writeRecord b_Writer_writeRecord_0 recB
  simp only [dw_g, dw_38, dw_n2 hF hS, dw_n8 hF hS, Option.bind_some, sN_app]
theorem dw_beh (hF : 20000 ≤ F) (hS : Sh A) : f_Writer_writeBehind F 35 38 (dw J A s Q st) = some ((), dw J A s Q (sN st (behB (J 38 3) (J 38 4) (J 38 5)))) := by
  unfold f_Writer_writeBehind b_Writer_writeBehind_0 behB
  simp only [dw_g, dw_38, dw_n4 hF hS, Option.bind_some, sN_app]
/-- the local part -/
def stL (st : List Int32 × Int32) (H C : List Int32) (lt : Bool) (X : List Int32) : List Int32 × Int32 := if lt then sN (sP (sN st H) C) X else sP (sN st H) C
theorem dw_234 (hF : 20000 ≤ F) (hS : Sh A) {r a : Nat} {C : List Int32} (hr : isR r a) (hr36 : r ≠ 36) (ha : a ≠ 37) (hg : ∀ st, getI (dw J A s Q st) r 0 1 = some (nI C.length)) (h1 : J r 1 = nI C.length) (h2 : (A a).take C.length = C) (hm : C.length ≤ aL a) (H : List Int32) : b_Writer_writeLocal_234 F 35 38 r (bI lt) (dw J A s Q (sN st H)) = some ((), dw J A s Q (stL st H C lt (behB (J 38 3) (J 38 4) (J 38 5)))) := by
  have hp := dw_part (F := F) (J := J) (A := A) (s := s) (Q := Q) (st := sN st H) (p := 0) (q := C.length) hr hr36 ha hS h1 hm (Nat.zero_le _) (Nat.le_refl _)
  rw [List.drop_zero, Nat.sub_zero, h2, show (nI 0 : Int32) = 0 from rfl] at hp
  unfold b_Writer_writeLocal_234 stL
  rw [dw_g.1, Option.bind_some, hg, Option.bind_some, dw_g.2.2.1, Option.bind_some, hp, Option.bind_some]
  simp only []
  cases lt with
  | false => rw [if_pos (show bI false = 0 from rfl)]; rfl
  | true =>
    rw [if_neg (show ¬ bI true = 0 by decide), dw_g.2.2.2.2.2.1, Option.bind_some, dw_beh hF hS, Option.bind_some]
    rfl
theorem dw_196 (hF : 20000 ≤ F) (hS : Sh A) (hy : isNam (J 38 0) n) (hfr : fr = decide (¬ J 35 1 = 0 ∧ ¬ J 38 1 = 8)) (r : Nat) (v3 : Int32) (x : Int64) : b_Writer_writeLocal_196 F 35 38 r v3 36 x (dw J A s Q st) = b_Writer_writeLocal_234 F 35 38 r v3 (dw J A s Q (sN st (lbs x 0 2 ++ hbs (J 38 0).toInt64 (nbN n) ++ (if fr then recB 16 (J 38 5) (J 38 4) else [])))) := by
  have hnb := nbN_le n
  unfold b_Writer_writeLocal_196
  rw [dw_g.2.2.1, Option.bind_some, dw_n2 hF hS, Option.bind_some]
  simp only []
  rw [dw_g.1, Option.bind_some, dw_38.1, Option.bind_some, Option.bind_some, nam_c hy hF, Option.bind_some]
  simp only []
  rw [dw_g.2.2.1, Option.bind_some, dw_h hF hS _ (by omega), Option.bind_some]
  simp only []
  rw [dw_g.2.2.2.2.2.1, Option.bind_some, dw_isW hfr, Option.bind_some]
  simp only []
  cases fr with
  | false =>
    rw [if_pos (show bI false = 0 from rfl), sN_app]
    show _ = b_Writer_writeLocal_234 F 35 38 r v3 (dw J A s Q (sN st (lbs x 0 2 ++ hbs (J 38 0).toInt64 (nbN n) ++ [])))
    rw [List.append_nil]
  | true =>
    rw [if_neg (show ¬ bI true = 0 by decide), dw_g.2.2.2.2.2.1, Option.bind_some, dw_rec hF hS, Option.bind_some, sN_app, sN_app]
    rfl
theorem dw_157 (hF : 20000 ≤ F) (hS : Sh A) (hy : isNam (J 38 0) n) (hfr : fr = decide (¬ J 35 1 = 0 ∧ ¬ J 38 1 = 8)) (r : Nat) (v3 : Int32) (x : Int64) : b_Writer_writeLocal_157 F 35 38 r v3 36 x (dw J A s Q st) = b_Writer_writeLocal_196 F 35 38 r v3 36 (if fr then 20 else 0) (dw J A s Q (sN st (lbs x 0 4 ++ lbs (nI (nbN n)).toInt64 0 2))) := by
  unfold b_Writer_writeLocal_157
  rw [dw_g.2.2.1, Option.bind_some, dw_n4 hF hS, Option.bind_some]
  simp only []
  rw [dw_g.1, Option.bind_some, dw_38.1, Option.bind_some, nam_c hy hF, Option.bind_some]
  simp only []
  rw [dw_g.2.2.1, Option.bind_some, dw_n2 hF hS, Option.bind_some]
  simp only []
  rw [dw_g.1, Option.bind_some, dw_g.2.2.2.2.2.1, Option.bind_some, dw_isW hfr, Option.bind_some, sN_app]
  simp only []
  cases fr with
  | false => rw [if_pos (show bI false = 0 from rfl)]; rfl
  | true => rw [if_neg (show ¬ bI true = 0 by decide)]; rfl
theorem dw_122 (hF : 20000 ≤ F) (hS : Sh A) (hfr : fr = decide (¬ J 35 1 = 0 ∧ ¬ J 38 1 = 8)) (r : Nat) (x : Int64) : b_Writer_writeLocal_122 F 35 38 r (bI lt) 36 x (dw J A s Q st) = b_Writer_writeLocal_157 F 35 38 r (bI lt) 36 (if lt then 0 else if fr then 4294967295 else (J 38 5).toInt64) (dw J A s Q (sN st (lbs x 0 4))) := by
  unfold b_Writer_writeLocal_122
  rw [dw_g.2.2.1, Option.bind_some, dw_n4 hF hS, Option.bind_some]
  simp only []
  rw [dw_g.1, Option.bind_some]
  cases lt with
  | false =>
    rw [if_pos (show bI false = 0 from rfl), dw_g.2.2.2.2.2.1, Option.bind_some, dw_isW hfr, Option.bind_some]
    simp only []
    cases fr with
    | false =>
      rw [if_pos (show bI false = 0 from rfl), dw_38.2.2.2.2.2.1, Option.bind_some]
      rfl
    | true => rw [if_neg (show ¬ bI true = 0 by decide)]; rfl
  | true => rw [if_neg (show ¬ bI true = 0 by decide)]; rfl
theorem dw_87 (hF : 20000 ≤ F) (hS : Sh A) (hfr : fr = decide (¬ J 35 1 = 0 ∧ ¬ J 38 1 = 8)) (r : Nat) (x : Int64) : b_Writer_writeLocal_87 F 35 38 r (bI lt) 36 x (dw J A s Q st) = b_Writer_writeLocal_122 F 35 38 r (bI lt) 36 (if lt then 0 else if fr then 4294967295 else (J 38 4).toInt64) (dw J A s Q (sN st (lbs x 0 4))) := by
  unfold b_Writer_writeLocal_87
  rw [dw_g.2.2.1, Option.bind_some, dw_n4 hF hS, Option.bind_some]
  simp only []
  rw [dw_g.1, Option.bind_some]
  cases lt with
  | false =>
    rw [if_pos (show bI false = 0 from rfl), dw_g.2.2.2.2.2.1, Option.bind_some, dw_isW hfr, Option.bind_some]
    simp only []
    cases fr with
    | false =>
      rw [if_pos (show bI false = 0 from rfl), dw_38.2.2.2.2.1, Option.bind_some]
      rfl
    | true => rw [if_neg (show ¬ bI true = 0 by decide)]; rfl
  | true => rw [if_neg (show ¬ bI true = 0 by decide)]; rfl
theorem dw_14 (hF : 20000 ≤ F) (hS : Sh A) (r : Nat) : b_Writer_writeLocal_14 F 35 38 r (bI lt) (dw J A s Q st) = b_Writer_writeLocal_87 F 35 38 r (bI lt) 36 (if lt then 0 else (J 38 3).toInt64) (dw J A s Q (sN st (lbs 67324752 0 4 ++ lbs 0 0 2 ++ lbs (J 38 1).toInt64 0 2 ++ lbs (J 38 2).toInt64 0 2 ++ lbs 0 0 4))) := by
  unfold b_Writer_writeLocal_14
  generalize (67324752 : Int64) = mk
  simp only [dw_g, dw_38, dw_n2 hF hS, dw_n4 hF hS, Option.bind_some, sN_app]
  cases lt with
  | false => rw [if_pos (show bI false = 0 from rfl)]; rfl
  | true => rw [if_neg (show ¬ bI true = 0 by decide)]; rfl
/-- writeLocal -/
theorem dw_local (hF : 20000 ≤ F) (hS : Sh A) (hy : isNam (J 38 0) n) (hfr : fr = decide (¬ J 35 1 = 0 ∧ ¬ J 38 1 = 8)) (hlt : lt = decide (J 38 1 = 8)) {r a : Nat} {C : List Int32} (hr : isR r a) (hr36 : r ≠ 36) (ha : a ≠ 37) (hg : ∀ st, getI (dw J A s Q st) r 0 1 = some (nI C.length)) (h1 : J r 1 = nI C.length) (h2 : (A a).take C.length = C) (hm : C.length ≤ aL a) : f_Writer_writeLocal F 35 38 r (dw J A s Q st) = some ((), dw J A s Q (stL st (locH (J 38 1) (J 38 2) (J 38 3) (J 38 4) (J 38 5) (J 38 0) (nbN n) lt fr) C lt (behB (J 38 3) (J 38 4) (J 38 5)))) := by
  have hpre : f_Writer_writeLocal F 35 38 r (dw J A s Q st) = b_Writer_writeLocal_14 F 35 38 r (bI lt) (dw J A s Q st) := by
    unfold f_Writer_writeLocal b_Writer_writeLocal_0
    rw [dw_38.2.1, Option.bind_some, hlt]
    by_cases c : J 38 1 = 8
    · rw [if_pos c, decide_eq_true c]; rfl
    · rw [if_neg c, decide_eq_false c]; rfl
  rw [hpre, dw_14 hF hS, dw_87 hF hS hfr, dw_122 hF hS hfr, dw_157 hF hS hy hfr, dw_196 hF hS hy hfr, sN_app, sN_app, sN_app, sN_app, dw_234 hF hS hr hr36 ha hg h1 h2 hm]
  unfold locH
  simp only [List.append_assoc]
/-! the part of the directory -/
theorem dw_203 (hF : 20000 ≤ F) (hS : Sh A) (hy : isNam (J 38 0) n) (hfr : fr = decide (¬ J 35 1 = 0 ∧ ¬ J 38 1 = 8)) (x : Int64) : b_Writer_writePart_203 F 35 38 36 x (dw J A s Q st) = some ((), dw J A s Q (sN st (lbs x 0 4 ++ hbs (J 38 0).toInt64 (nbN n) ++ (if fr then recB 24 (J 38 5) (J 38 4) ++ lbs (J 38 6).toInt64 0 8 else [])))) := by
  have hnb := nbN_le n
  unfold b_Writer_writePart_203
  rw [dw_g.2.2.1, Option.bind_some, dw_n4 hF hS, Option.bind_some]
  simp only []
  rw [dw_g.1, Option.bind_some, dw_38.1, Option.bind_some, Option.bind_some, nam_c hy hF, Option.bind_some]
  simp only []
  rw [dw_g.2.2.1, Option.bind_some, dw_h hF hS _ (by omega), Option.bind_some]
  simp only []
  rw [dw_g.2.2.2.2.2.1, Option.bind_some, dw_isW hfr, Option.bind_some]
  simp only []
  cases fr with
  | false =>
    rw [if_pos (show bI false = 0 from rfl), sN_app]
    show _ = some ((), dw J A s Q (sN st (lbs x 0 4 ++ hbs (J 38 0).toInt64 (nbN n) ++ [])))
    rw [List.append_nil]
  | true =>
    rw [if_neg (show ¬ bI true = 0 by decide), dw_g.2.2.2.2.2.1, Option.bind_some, dw_rec hF hS, Option.bind_some]
    simp only []
    rw [dw_g.1, Option.bind_some, dw_38.2.2.2.2.2.2.1, Option.bind_some, dw_g.2.2.1, Option.bind_some, dw_n8 hF hS, Option.bind_some, sN_app, sN_app, sN_app]
    simp only [if_true, List.append_assoc]
    rfl
theorem dw_p157 (hF : 20000 ≤ F) (hS : Sh A) (hfr : fr = decide (¬ J 35 1 = 0 ∧ ¬ J 38 1 = 8)) (x : Int64) : b_Writer_writePart_157 F 35 38 36 x (dw J A s Q st) = b_Writer_writePart_203 F 35 38 36 (if fr then 4294967295 else (J 38 6).toInt64) (dw J A s Q (sN st (lbs x 0 2 ++ lbs 0 0 2 ++ lbs 0 0 8))) := by
  unfold b_Writer_writePart_157
  simp only [dw_g, dw_n2 hF hS, dw_n8 hF hS, dw_isW hfr, dw_38, Option.bind_some, sN_app]
  cases fr with
  | false => rw [if_pos (show bI false = 0 from rfl)]; rfl
  | true => rw [if_neg (show ¬ bI true = 0 by decide)]; rfl
theorem dw_p118 (hF : 20000 ≤ F) (hS : Sh A) (hy : isNam (J 38 0) n) (hfr : fr = decide (¬ J 35 1 = 0 ∧ ¬ J 38 1 = 8)) (x : Int64) : b_Writer_writePart_118 F 35 38 36 x (dw J A s Q st) = b_Writer_writePart_157 F 35 38 36 (if fr then 28 else 0) (dw J A s Q (sN st (lbs x 0 4 ++ lbs (nI (nbN n)).toInt64 0 2))) := by
  unfold b_Writer_writePart_118
  rw [dw_g.2.2.1, Option.bind_some, dw_n4 hF hS, Option.bind_some]
  simp only []
  rw [dw_g.1, Option.bind_some, dw_38.1, Option.bind_some, nam_c hy hF, Option.bind_some]
  simp only []
  rw [dw_g.2.2.1, Option.bind_some, dw_n2 hF hS, Option.bind_some]
  simp only []
  rw [dw_g.1, Option.bind_some, dw_g.2.2.2.2.2.1, Option.bind_some, dw_isW hfr, Option.bind_some, sN_app]
  simp only []
  cases fr with
  | false => rw [if_pos (show bI false = 0 from rfl)]; rfl
  | true => rw [if_neg (show ¬ bI true = 0 by decide)]; rfl
theorem dw_p91 (hF : 20000 ≤ F) (hS : Sh A) (hfr : fr = decide (¬ J 35 1 = 0 ∧ ¬ J 38 1 = 8)) (x : Int64) : b_Writer_writePart_91 F 35 38 36 x (dw J A s Q st) = b_Writer_writePart_118 F 35 38 36 (if fr then 4294967295 else (J 38 5).toInt64) (dw J A s Q (sN st (lbs x 0 4))) := by
  unfold b_Writer_writePart_91
  rw [dw_g.2.2.1, Option.bind_some, dw_n4 hF hS, Option.bind_some]
  simp only []
  rw [dw_g.1, Option.bind_some, dw_g.2.2.2.2.2.1, Option.bind_some, dw_isW hfr, Option.bind_some]
  simp only []
  cases fr with
  | false =>
    rw [if_pos (show bI false = 0 from rfl), dw_38.2.2.2.2.2.1, Option.bind_some]
    rfl
  | true => rw [if_neg (show ¬ bI true = 0 by decide)]; rfl
/-- writePart -/
theorem dw_prt (hF : 20000 ≤ F) (hS : Sh A) (hy : isNam (J 38 0) n) (hfr : fr = decide (¬ J 35 1 = 0 ∧ ¬ J 38 1 = 8)) : f_Writer_writePart F 35 38 (dw J A s Q st) = some ((), dw J A s Q (sN st (prtB (J 38 1) (J 38 2) (J 38 3) (J 38 4) (J 38 5) (J 38 6) (J 38 0) (nbN n) fr))) := by
  have hpre : f_Writer_writePart F 35 38 (dw J A s Q st) = b_Writer_writePart_91 F 35 38 36 (if fr then 4294967295 else (J 38 4).toInt64) (dw J A s Q (sN st (lbs 33639248 0 4 ++ lbs 0 0 4 ++ lbs (J 38 1).toInt64 0 2 ++ lbs (J 38 2).toInt64 0 2 ++ lbs 0 0 4 ++ lbs (J 38 3).toInt64 0 4))) := by
    unfold f_Writer_writePart b_Writer_writePart_0
    generalize (33639248 : Int64) = mk
    simp only [dw_g, dw_38, dw_n2 hF hS, dw_n4 hF hS, dw_isW hfr, Option.bind_some, sN_app]
    cases fr with
    | false => rw [if_pos (show bI false = 0 from rfl)]; rfl
    | true => rw [if_neg (show ¬ bI true = 0 by decide)]; rfl
  rw [hpre, dw_p91 hF hS hfr, dw_p118 hF hS hy hfr, dw_p157 hF hS hfr, dw_203 hF hS hy hfr, sN_app, sN_app, sN_app, sN_app]
  unfold prtB
  simp only [List.append_assoc]
theorem Rp.l {U H C X : List Int32} (h : Rp st U) : Rp (stL st H C lt X) (U ++ H ++ C ++ (if lt then X else [])) := by
  unfold stL
  cases lt with
  | false =>
    show Rp (sP (sN st H) C) (U ++ H ++ C ++ [])
    rw [List.append_nil]
    exact h.n.p
  | true => exact h.n.p.n
end Sa
