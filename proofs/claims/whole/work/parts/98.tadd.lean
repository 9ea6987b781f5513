/-! add: what is written, by the reference. -/
theorem n64_tn {n : Nat} (h : n < 2 ^ 31) : (nI n).toInt64.toBitVec.toNat = n := by
  have e : (nI n).toInt64.toInt = (n : Int) := by rw [Int32.toInt_toInt64, nI_toInt h]
  have e2 : (nI n).toInt64.toInt = (nI n).toInt64.toBitVec.toInt := rfl
  rw [e2, BitVec.toInt_eq_toNat_cond] at e
  have := (nI n).toInt64.toBitVec.isLt
  split at e <;> omega
theorem lb_nI {n k : Nat} (h : n < 2 ^ 31) (hk : k < 8) : lb (nI n).toInt64 k = nI (n / 2 ^ (8 * k) % 256) := by rw [lb_nat _ hk, n64_tn h]
theorem lbs_1 (x : Int64) : lbs x 0 1 = [lb x 0] := rfl
theorem lbs_b {b : Int32} (h : isB b) : lbs b.toInt64 0 1 = [b] := by
  obtain ⟨k, hk, rfl⟩ := h
  rw [lbs_1, lb_nI (by omega) (by decide)]
  congr 2
  omega
def nuB (f me cr pk sz : Int32) (nb : Nat) (no fr : Bool) : List Int32 := lbs f.toInt64 0 2 ++ lbs me.toInt64 0 2 ++ lbs 0 0 4 ++ lbs (if no then 0 else cr.toInt64) 0 4 ++ lbs (if no then 0 else if fr then 4294967295 else pk.toInt64) 0 4 ++ lbs (if no then 0 else if fr then 4294967295 else sz.toInt64) 0 4 ++ lbs (nI nb).toInt64 0 2
theorem nuB_len (f me cr pk sz : Int32) (nb : Nat) (no fr : Bool) : (nuB f me cr pk sz nb no fr).length = 22 := by
  unfold nuB
  simp only [List.length_append, lbs_len]
section Ta
variable {J : yJ} {A : yA} {s : Nat} {Q : zW} {F : Nat} {B T C : List Int32} {n : Nat} {lt fr no : Bool} {y f me cr pk sz ds : Int32}
theorem m_crcB_l (hF : 20000 ≤ F) (h1 : J 39 1 = nI B.length) (h40 : (A 40).take B.length = B) (hB : B.length ≤ 400) : ∀ (m k : Nat) (x : Int32), k ≤ B.length → B.length - k < m → l_Model_crcOfBuffer_4 F m 39 x (nI k) (YW J A s Q) = some (-1 - crcF (B.drop k) x, YW J A s Q) := by
  intro m
  induction m with
  | zero => intro k x _ h; omega
  | succ m ih =>
    intro k x hk hm
    show b_Model_crcOfBuffer_4 F (l_Model_crcOfBuffer_4 F m) 39 x (nI k) (YW J A s Q) = _
    unfold b_Model_crcOfBuffer_4
    rw [show getI (YW J A s Q) 39 9 1 = some (J 39 1) from rfl, Option.bind_some, h1]
    by_cases hlt : k < B.length
    · have hg : aget (YW J A s Q) 40 (nI k) = some B[k] := ag_ (by decide) (by omega) (take_get h40 hlt)
      rw [if_neg (nI_ge hlt (by omega)), show getR (YW J A s Q) 39 9 2 = some 40 from rfl, Option.bind_some, hg, Option.bind_some, stir_ F hF, Option.bind_some]
      simp only []
      rw [nI_1, ih (k + 1) _ (by omega) (by omega), List.drop_eq_getElem_cons hlt]
      rfl
    · rw [if_pos (nI_le (by omega) (by omega)), List.drop_of_length_le (by omega)]
      rfl
theorem md_crc (hF : 20000 ≤ F) (h1 : J 39 1 = nI B.length) (h40 : (A 40).take B.length = B) (hB : B.length ≤ 400) : f_Model_crcOfBuffer F 39 (md J A s Q T) = some (crcL B, md J A s Q T) := by
  have := m_crcB_l (F := F) (s := s) (Q := Q) (J := pj J 39 31 (nI T.length)) (A := ud A 59 (wr (A 59) 0 T)) hF (by rw [pj_k (by decide)]; exact h1) (by rw [ud_n (by decide)]; exact h40) hB F 0 (-1) (Nat.zero_le _) (by omega)
  rw [List.drop_zero] at this
  exact this
theorem m_pname_l (hF : 20000 ≤ F) (hS : Sh A) (hn : n < 2 ^ 24) : ∀ (k m : Nat) (T : List Int32), k ≤ 3 → k < m → T.length + k ≤ 1700 → l_Model_putName_7 F m 39 (nI n) (nI k - 1) (md J A s Q T) = some ((), md J A s Q (T ++ hbs (nI n).toInt64 k)) := by
  intro k
  induction k with
  | zero =>
    intro m T _ hm _
    obtain ⟨m, rfl⟩ : ∃ q, m = q + 1 := ⟨m - 1, by omega⟩
    show b_Model_putName_7 F (l_Model_putName_7 F m) 39 (nI n) (nI 0 - 1) _ = _
    unfold b_Model_putName_7
    rw [if_pos (show nI 0 - 1 < (0 : Int32) by decide), show hbs (nI n).toInt64 0 = [] from rfl, List.append_nil]
  | succ k ih =>
    intro m T hk hm hT
    obtain ⟨m, rfl⟩ : ∃ q, m = q + 1 := ⟨m - 1, by omega⟩
    show b_Model_putName_7 F (l_Model_putName_7 F m) 39 (nI n) (nI (k + 1) - 1) _ = _
    unfold b_Model_putName_7
    have hq : n / 2 ^ (8 * k) < 2 ^ 31 := by have := Nat.div_le_self n (2 ^ (8 * k)); omega
    have e : lbs (nI (n / 2 ^ (8 * k))).toInt64 0 1 = [lb (nI n).toInt64 k] := by
      rw [lbs_1, lb_nI hq (by decide), lb_nI (by omega) (by omega), Nat.mul_zero, Nat.pow_zero, Nat.div_one]
    rw [nI_pred, if_neg (nI_pos (by omega)), md_o, show (8 : Int32) = nI 8 from rfl, pk_mul, shrD (by omega) (by omega), m_l1 hF hS _ (by omega), Option.bind_some, e]
    simp only []
    rw [show nI k + (-1) = nI k - 1 from (Int32.sub_eq_add_neg _ _).symm, ih m _ (by omega) (by omega) (by rw [List.length_append, List.length_singleton]; omega), hbs_succ, List.append_assoc]
    rfl
theorem m_putName (hF : 20000 ≤ F) (hS : Sh A) (hy : isNam y n) (hT : T.length + 3 ≤ 1700) : f_Model_putName F 39 y (md J A s Q T) = some ((), md J A s Q (T ++ hbs y.toInt64 (nbN n))) := by
  obtain ⟨rfl, h1, h2, -⟩ := hy
  have hnb := nbN_le n
  unfold f_Model_putName b_Model_putName_0
  rw [m_bo h2, Option.bind_some]
  exact m_pname_l hF hS (by omega) (nbN n) F T hnb.2 (by omega) (by omega)
theorem m_putRecord (hF : 20000 ≤ F) (hS : Sh A) (h1 : J 39 1 = sz) (h6 : J 39 6 = pk) (k : Int32) (hT : T.length + 20 ≤ 1700) : f_Model_putRecord F 39 k (md J A s Q T) = some ((), md J A s Q (T ++ recB k.toInt64 sz pk)) := by
  unfold f_Model_putRecord b_Model_putRecord_0 recB
  simp (disch := (first | omega | (simp only [List.length_append, lbs_len]; omega))) only [md_g, md_o, m_l2 hF hS, m_l8 hF hS, Option.bind_some, List.append_assoc, h1, h6]
theorem m_nu95 (hF : 20000 ≤ F) (hS : Sh A) (hy : isNam y n) (x : Int64) (hT : T.length + 6 ≤ 1700) : b_Model_putNumbers_95 F 39 y 39 x (md J A s Q T) = some ((), md J A s Q (T ++ lbs x 0 4 ++ lbs (nI (nbN n)).toInt64 0 2)) := by
  obtain ⟨rfl, h1, h2, -⟩ := hy
  unfold b_Model_putNumbers_95
  rw [md_o, m_l4 hF hS _ (by omega), Option.bind_some]
  simp only []
  rw [m_bo h2, Option.bind_some]
  simp only []
  rw [md_o, m_l2 hF hS _ (by rw [List.length_append, lbs_len]; omega), Option.bind_some]
theorem m_nu65 (hF : 20000 ≤ F) (hS : Sh A) (hy : isNam y n) (h1 : J 39 1 = sz) (x : Int64) (hT : T.length + 10 ≤ 1700) : b_Model_putNumbers_65 F 39 y (bI fr) (bI no) 39 x (md J A s Q T) = some ((), md J A s Q (T ++ lbs x 0 4 ++ lbs (if no then 0 else if fr then 4294967295 else sz.toInt64) 0 4 ++ lbs (nI (nbN n)).toInt64 0 2)) := by
  unfold b_Model_putNumbers_65
  rw [md_o, m_l4 hF hS _ (by omega), Option.bind_some]
  simp only []
  have hl : (T ++ lbs x 0 4).length + 6 ≤ 1700 := by rw [List.length_append, lbs_len]; omega
  cases no with
  | true =>
    rw [if_neg (show ¬ bI true = 0 by decide), m_nu95 hF hS hy _ hl]
    rfl
  | false =>
    rw [if_pos (show bI false = 0 from rfl)]
    cases fr with
    | true =>
      rw [if_neg (show ¬ bI true = 0 by decide), m_nu95 hF hS hy _ hl, lbs_m1]
      rfl
    | false =>
      rw [if_pos (show bI false = 0 from rfl), md_g.2.2.1, Option.bind_some, h1, m_nu95 hF hS hy _ hl]
      rfl
theorem m_nu35 (hF : 20000 ≤ F) (hS : Sh A) (hy : isNam y n) (h1 : J 39 1 = sz) (h6 : J 39 6 = pk) (x : Int64) (hT : T.length + 14 ≤ 1700) : b_Model_putNumbers_35 F 39 y (bI fr) (bI no) 39 x (md J A s Q T) = some ((), md J A s Q (T ++ lbs x 0 4 ++ lbs (if no then 0 else if fr then 4294967295 else pk.toInt64) 0 4 ++ lbs (if no then 0 else if fr then 4294967295 else sz.toInt64) 0 4 ++ lbs (nI (nbN n)).toInt64 0 2)) := by
  unfold b_Model_putNumbers_35
  rw [md_o, m_l4 hF hS _ (by omega), Option.bind_some]
  simp only []
  have hl : (T ++ lbs x 0 4).length + 10 ≤ 1700 := by rw [List.length_append, lbs_len]; omega
  cases no with
  | true =>
    rw [if_neg (show ¬ bI true = 0 by decide), m_nu65 (sz := sz) hF hS hy h1 _ hl]
    rfl
  | false =>
    rw [if_pos (show bI false = 0 from rfl)]
    cases fr with
    | true =>
      rw [if_neg (show ¬ bI true = 0 by decide), m_nu65 (sz := sz) hF hS hy h1 _ hl, lbs_m1]
      rfl
    | false =>
      rw [if_pos (show bI false = 0 from rfl), md_g.2.2.2.2.2.1, Option.bind_some, h6, m_nu65 (sz := sz) hF hS hy h1 _ hl]
      rfl
theorem m_putNumbers (hF : 20000 ≤ F) (hS : Sh A) (hy : isNam y n) (h1 : J 39 1 = nI B.length) (h40 : (A 40).take B.length = B) (hB : B.length ≤ 400) (h6 : J 39 6 = pk) (hT : T.length + 22 ≤ 1700) : f_Model_putNumbers F 39 y f me (bI fr) (bI no) (md J A s Q T) = some ((), md J A s Q (T ++ nuB f me (crcL B) pk (nI B.length) (nbN n) no fr)) := by
  unfold f_Model_putNumbers b_Model_putNumbers_0 nuB
  rw [md_o, m_l2 hF hS _ (by omega), Option.bind_some]
  simp only []
  rw [md_o, m_l2 hF hS _ (by rw [List.length_append, lbs_len]; omega), Option.bind_some]
  simp only []
  rw [md_o, m_l4 hF hS _ (by rw [List.length_append, List.length_append, lbs_len, lbs_len]; omega), Option.bind_some]
  simp only []
  have hl : (T ++ lbs f.toInt64 0 2 ++ lbs me.toInt64 0 2 ++ lbs 0 0 4).length + 14 ≤ 1700 := by simp only [List.length_append, lbs_len]; omega
  cases no with
  | true =>
    rw [if_neg (show ¬ bI true = 0 by decide), m_nu35 (no := true) hF hS hy h1 h6 _ hl]
    simp only [List.append_assoc, if_true]
  | false =>
    rw [if_pos (show bI false = 0 from rfl), md_o, md_crc hF h1 h40 hB, Option.bind_some]
    simp only []
    rw [m_nu35 (no := false) hF hS hy h1 h6 _ hl]
    simp only [List.append_assoc, Bool.false_eq_true, if_false]
/-- the content, byte by byte, and what stands behind it -/
theorem m_lo70 (hF : 20000 ≤ F) (hS : Sh A) (h1 : J 39 1 = nI B.length) (h40 : (A 40).take B.length = B) (hB : B.length ≤ 400) (h6 : J 39 6 = nI C.length) (h42 : (A 42).take C.length = C) (hC : C.length ≤ 400) (hb : ∀ b ∈ C, isB b) (hlt : lt = decide (f = 8)) : ∀ (m k : Nat) (T : List Int32), k ≤ C.length → C.length - k < m → T.length + (C.length - k) + 16 ≤ 1700 → l_Model_putLocal_70 F m 39 f (nI k) (md J A s Q T) = some ((), md J A s Q (T ++ C.drop k ++ (if lt then behB (crcL B) (nI C.length) (nI B.length) else []))) := by
  intro m
  induction m with
  | zero => intro k T _ h; omega
  | succ m ih =>
    intro k T hk hm hT
    show b_Model_putLocal_70 F (l_Model_putLocal_70 F m) 39 f (nI k) (md J A s Q T) = _
    unfold b_Model_putLocal_70
    rw [md_g.2.2.2.2.2.1, Option.bind_some, h6]
    by_cases hl : k < C.length
    · have hg : aget (md J A s Q T) 42 (nI k) = some C[k] := ag_ (by decide) (by omega) (by rw [ud_n (by decide)]; exact take_get h42 hl)
      rw [if_neg (nI_ge hl (by omega)), show getR (md J A s Q T) 39 9 7 = some 42 from rfl, Option.bind_some, hg, Option.bind_some, md_o, m_l1 hF hS _ (by omega), Option.bind_some, lbs_b (hb _ (List.getElem_mem hl))]
      simp only []
      rw [nI_1, ih (k + 1) _ (by omega) (by omega) (by rw [List.length_append, List.length_singleton]; omega), List.drop_eq_getElem_cons hl, List.append_assoc T]
      rfl
    · rw [if_pos (nI_le (by omega) (by omega)), List.drop_of_length_le (by omega), List.append_nil]
      by_cases c8 : f = 8
      · rw [if_pos c8, hlt, decide_eq_true c8]
        simp only [if_true]
        unfold behB
        generalize (134695760 : Int64) = mk
        have hl : T.length + 16 ≤ 1700 := by omega
        simp (disch := (first | omega | (simp only [List.length_append, lbs_len]; omega))) only [md_g, md_o, m_l4 hF hS, md_crc hF h1 h40 hB, Option.bind_some, List.append_assoc, h1, h6]
      · rw [if_neg c8, hlt, decide_eq_false c8]
        simp only [Bool.false_eq_true, if_false, List.append_nil]
theorem m_putLocal (hF : 20000 ≤ F) (hS : Sh A) (hy : isNam y n) (h1 : J 39 1 = nI B.length) (h40 : (A 40).take B.length = B) (hB : B.length ≤ 400) (h6 : J 39 6 = nI C.length) (h42 : (A 42).take C.length = C) (hC : C.length ≤ 400) (hb : ∀ b ∈ C, isB b) (hlt : lt = decide (f = 8)) (hT : T.length + 72 + C.length ≤ 1700) : f_Model_putLocal F 39 y f me (bI fr) (md J A s Q T) = some ((), md J A s Q (T ++ locH f me (crcL B) (nI C.length) (nI B.length) y (nbN n) lt fr ++ C ++ (if lt then behB (crcL B) (nI C.length) (nI B.length) else []))) := by
  have hnb := nbN_le n
  unfold f_Model_putLocal b_Model_putLocal_0
  rw [md_o, m_l4 hF hS _ (by omega), Option.bind_some]
  simp only []
  rw [md_o, m_l2 hF hS _ (by rw [List.length_append, lbs_len]; omega), Option.bind_some]
  simp only []
  have hs : (if f = 8 then b_Model_putLocal_31 F 39 y f (bI fr) 39 y f me (bI fr) 1 (md J A s Q (T ++ lbs 67324752 0 4 ++ lbs 0 0 2)) else b_Model_putLocal_31 F 39 y f (bI fr) 39 y f me (bI fr) 0 (md J A s Q (T ++ lbs 67324752 0 4 ++ lbs 0 0 2))) = b_Model_putLocal_31 F 39 y f (bI fr) 39 y f me (bI fr) (bI lt) (md J A s Q (T ++ lbs 67324752 0 4 ++ lbs 0 0 2)) := by
    by_cases c8 : f = 8
    · rw [if_pos c8, hlt, decide_eq_true c8]; rfl
    · rw [if_neg c8, hlt, decide_eq_false c8]; rfl
  rw [hs]
  unfold locH
  generalize (67324752 : Int64) = mk
  have hl1 : (T ++ lbs mk 0 4 ++ lbs 0 0 2).length = T.length + 6 := by simp only [List.length_append, lbs_len]
  unfold b_Model_putLocal_31
  rw [md_o, m_putNumbers hF hS hy h1 h40 hB h6 (by omega), Option.bind_some]
  simp only []
  have hl2 := nuB_len f me (crcL B) (nI C.length) (nI B.length) (nbN n) lt fr
  have h47 : ∀ x : Int64, b_Model_putLocal_47 F 39 y f (bI fr) 39 x (md J A s Q (T ++ lbs mk 0 4 ++ lbs 0 0 2 ++ nuB f me (crcL B) (nI C.length) (nI B.length) (nbN n) lt fr)) = some ((), md J A s Q (T ++ lbs mk 0 4 ++ lbs 0 0 2 ++ nuB f me (crcL B) (nI C.length) (nI B.length) (nbN n) lt fr ++ lbs x 0 2 ++ hbs y.toInt64 (nbN n) ++ (if fr then recB 16 (nI B.length) (nI C.length) else []) ++ C ++ (if lt then behB (crcL B) (nI C.length) (nI B.length) else []))) := by
    intro x
    generalize hT1 : T ++ lbs mk 0 4 ++ lbs 0 0 2 ++ nuB f me (crcL B) (nI C.length) (nI B.length) (nbN n) lt fr = T1
    have hT1l : T1.length = T.length + 28 := by rw [← hT1, List.length_append, hl1, hl2]
    unfold b_Model_putLocal_47 b_Model_putLocal_67
    rw [md_o, m_l2 hF hS _ (by omega), Option.bind_some]
    simp only []
    rw [md_o, m_putName hF hS hy (by rw [List.length_append, lbs_len]; omega), Option.bind_some]
    simp only []
    have hT2l : (T1 ++ lbs x 0 2 ++ hbs y.toInt64 (nbN n)).length = T.length + 30 + nbN n := by simp only [List.length_append, lbs_len, hbs_len]; omega
    have fin := fun T (hT : T.length + C.length + 16 ≤ 1700) => m_lo70 (F := F) (J := J) (A := A) (s := s) (Q := Q) hF hS h1 h40 hB h6 h42 hC hb hlt F 0 T (Nat.zero_le _) (by omega) (by omega)
    cases fr with
    | false =>
      rw [if_pos (show bI false = 0 from rfl), show (0 : Int32) = nI 0 from rfl, fin _ (by omega)]
      simp only [Bool.false_eq_true, if_false, List.append_nil, List.drop_zero]
    | true =>
      rw [if_neg (show ¬ bI true = 0 by decide), md_o, m_putRecord hF hS h1 h6 16 (by omega), Option.bind_some]
      simp only []
      rw [show (0 : Int32) = nI 0 from rfl, fin _ (by rw [List.length_append, recB_len]; omega)]
      simp only [if_true, List.drop_zero]
      rfl
  have hif : ∀ w, (if bI fr = 0 then b_Model_putLocal_47 F 39 y f (bI fr) 39 0 w else b_Model_putLocal_47 F 39 y f (bI fr) 39 20 w) = b_Model_putLocal_47 F 39 y f (bI fr) 39 (if fr then 20 else 0) w := by
    intro w
    cases fr
    · rw [if_pos (show bI false = 0 from rfl)]; rfl
    · rw [if_neg (show ¬ bI true = 0 by decide)]; rfl
  rw [hif, h47]
  unfold nuB
  simp only [List.append_assoc]
theorem m_putPart (hF : 20000 ≤ F) (hS : Sh A) (hy : isNam y n) (h1 : J 39 1 = nI B.length) (h40 : (A 40).take B.length = B) (hB : B.length ≤ 400) (h6 : J 39 6 = pk) (h18 : J 39 18 = ds) (hT : T.length + 82 ≤ 1700) : f_Model_putPart F 39 y f me (bI fr) (md J A s Q T) = some ((), md J A s Q (T ++ prtB f me (crcL B) pk (nI B.length) ds y (nbN n) fr)) := by
  have hnb := nbN_le n
  unfold f_Model_putPart b_Model_putPart_0 prtB
  generalize (33639248 : Int64) = mk
  rw [md_o, m_l4 hF hS _ (by omega), Option.bind_some]
  simp only []
  rw [md_o, m_l4 hF hS _ (by rw [List.length_append, lbs_len]; omega), Option.bind_some]
  simp only []
  have hl1 : (T ++ lbs mk 0 4 ++ lbs 0 0 4).length = T.length + 8 := by simp only [List.length_append, lbs_len]
  rw [md_o, show (0 : Int32) = bI false from rfl, m_putNumbers (no := false) hF hS hy h1 h40 hB h6 (by omega), Option.bind_some]
  simp only []
  have hl2 := nuB_len f me (crcL B) pk (nI B.length) (nbN n) false fr
  have h65 : ∀ (x : Int64) (T : List Int32), T.length + 40 ≤ 1700 → b_Model_putPart_65 F 39 y (bI fr) 39 x (md J A s Q T) = some ((), md J A s Q (T ++ lbs x 0 4 ++ hbs y.toInt64 (nbN n) ++ (if fr then recB 24 (nI B.length) pk ++ lbs ds.toInt64 0 8 else []))) := by
    intro x T hT
    unfold b_Model_putPart_65
    rw [md_o, m_l4 hF hS _ (by omega), Option.bind_some]
    simp only []
    rw [md_o, m_putName hF hS hy (by rw [List.length_append, lbs_len]; omega), Option.bind_some]
    simp only []
    have hT2l : (T ++ lbs x 0 4 ++ hbs y.toInt64 (nbN n)).length = T.length + 4 + nbN n := by simp only [List.length_append, lbs_len, hbs_len]
    cases fr with
    | false =>
      rw [if_pos (show bI false = 0 from rfl)]
      simp only [Bool.false_eq_true, if_false, List.append_nil]
    | true =>
      rw [if_neg (show ¬ bI true = 0 by decide), md_o, m_putRecord hF hS h1 h6 24 (by omega), Option.bind_some]
      simp only []
      rw [md_g.2.2.2.2.2.2.2.2.1, Option.bind_some, md_o, m_l8 hF hS _ (by rw [List.length_append, recB_len]; omega), Option.bind_some, h18]
      simp only [if_true, List.append_assoc]
      rfl
  have h37 : ∀ (x : Int64) (T : List Int32), T.length + 52 ≤ 1700 → b_Model_putPart_37 F 39 y (bI fr) 39 x (md J A s Q T) = some ((), md J A s Q (T ++ lbs x 0 2 ++ (lbs 0 0 2 ++ lbs 0 0 8) ++ lbs (if fr then 4294967295 else ds.toInt64) 0 4 ++ hbs y.toInt64 (nbN n) ++ (if fr then recB 24 (nI B.length) pk ++ lbs ds.toInt64 0 8 else []))) := by
    intro x T hT
    unfold b_Model_putPart_37
    rw [md_o, m_l2 hF hS _ (by omega), Option.bind_some]
    simp only []
    rw [md_o, m_l10 hF hS (by rw [List.length_append, lbs_len]; omega), Option.bind_some]
    simp only []
    have hl : (T ++ lbs x 0 2 ++ (lbs 0 0 2 ++ lbs 0 0 8)).length + 40 ≤ 1700 := by simp only [List.length_append, lbs_len]; omega
    rw [md_g.2.2.2.2.2.2.2.2.1, Option.bind_some, h18]
    have hif : ∀ w, (if bI fr = 0 then b_Model_putPart_65 F 39 y (bI fr) 39 ds.toInt64 w else b_Model_putPart_65 F 39 y (bI fr) 39 (-1) w) = b_Model_putPart_65 F 39 y (bI fr) 39 (if fr then -1 else ds.toInt64) w := by
      intro w
      cases fr
      · rw [if_pos (show bI false = 0 from rfl)]; rfl
      · rw [if_neg (show ¬ bI true = 0 by decide)]; rfl
    rw [hif, h65 _ _ hl]
    cases fr with
    | false => rfl
    | true =>
      simp only [if_true]
      rw [lbs_m1]
  have hif : ∀ w, (if bI fr = bI false then b_Model_putPart_37 F 39 y (bI fr) 39 0 w else b_Model_putPart_37 F 39 y (bI fr) 39 28 w) = b_Model_putPart_37 F 39 y (bI fr) 39 (if fr then 28 else 0) w := by
    intro w
    cases fr
    · rw [if_pos (show bI false = bI false from rfl)]; rfl
    · rw [if_neg (show ¬ bI true = bI false by decide)]; rfl
  rw [hif, h37 _ _ (by rw [List.length_append, hl1, hl2]; omega)]
  unfold nuB
  simp only [List.append_assoc, Bool.false_eq_true, if_false]
end Ta
