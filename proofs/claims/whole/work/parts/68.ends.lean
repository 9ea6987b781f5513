/-! The end of an archive: what both sides find. -/
def feS (L : List Int32) : Nat → Option Nat
  | 0 => none
  | p + 1 => if nvL L p 4 = 101010256 ∧ p + 22 + nvL L (p + 20) 2 = L.length then some p else feS L p
def opI : Option Nat → Int32
  | none => -1
  | some p => nI p
def takeE (n n2 size from_ en : Nat) : Option (Nat × Nat × Nat) := if n = n2 ∧ n ≤ 8 ∧ from_ ≤ en ∧ size = en - from_ then some (n, from_, en) else none
def reS (L : List Int32) (e : Nat) : Option (Nat × Nat × Nat) :=
  if nvL L (e + 16) 4 = 4294967295 then (if 76 ≤ e ∧ nvL L (e - 20) 4 = 117853008 ∧ nvL L (e - 12) 8 = e - 76 ∧ nvL L (e - 76) 4 = 101075792 ∧ nvL L (e - 72) 8 = 44 then takeE (nvL L (e - 52) 8) (nvL L (e - 44) 8) (nvL L (e - 36) 8) (nvL L (e - 28) 8) (e - 76) else none)
  else takeE (nvL L (e + 8) 2) (nvL L (e + 10) 2) (nvL L (e + 12) 4) (nvL L (e + 16) 4) e
theorem feS_lt {L : List Int32} : ∀ {t e : Nat}, feS L t = some e → e < t
  | 0, e, h => by cases h
  | t + 1, e, h => by
    unfold feS at h
    split at h
    · cases h; omega
    · have := feS_lt h; omega
theorem feS_len {L : List Int32} : ∀ {t e : Nat}, feS L t = some e → e + 22 + nvL L (e + 20) 2 = L.length
  | 0, e, h => by cases h
  | t + 1, e, h => by
    unfold feS at h
    split at h
    · rename_i q; cases h; exact q.2
    · exact feS_len h
theorem ln_add (a b : Nat) : lN_ a + lN_ b = lN_ (a + b) := by
  apply Int64.toBitVec_inj.mp
  rw [Int64.toBitVec_add, ln_bv, ln_bv, ln_bv, BitVec.ofNat_add]
theorem nvL_mod {L : List Int32} {p n : Nat} (hb : ∀ b ∈ L, isB b) (hp : p < L.length) (hn : 0 < n) : nvL L p n % 256 = bN L[p] := by
  unfold nvL
  rw [List.drop_eq_getElem_cons hp]
  obtain ⟨n, rfl⟩ : ∃ m, n = m + 1 := ⟨n - 1, by omega⟩
  rw [List.take_succ_cons]
  show (bN L[p] + 256 * _) % 256 = _
  have := (isB_bN (hb L[p] (List.getElem_mem hp))).1
  omega
theorem nvL_64 {L : List Int32} {p n : Nat} (hb : ∀ b ∈ L, isB b) (hn : n ≤ 8) : nvL L p n < 2 ^ 64 :=
  Nat.lt_of_lt_of_le (nvL_lt hb) (Nat.le_trans (Nat.pow_le_pow_right (by decide) hn) (by decide))
theorem nvL_32 {L : List Int32} {p : Nat} (hb : ∀ b ∈ L, isB b) : nvL L p 4 < 2 ^ 32 := Nat.lt_of_lt_of_le (nvL_lt hb) (by decide)
theorem nvL_16 {L : List Int32} {p : Nat} (hb : ∀ b ∈ L, isB b) : nvL L p 2 < 2 ^ 16 := Nat.lt_of_lt_of_le (nvL_lt hb) (by decide)
theorem hr3 : isR 3 4 := Or.inr (Or.inl ⟨rfl, rfl⟩)
section Fe
variable {J : yJ} {A : yA} {s : Nat} {Q : zW} {L : List Int32} {F : Nat}
theorem c_fe_l (hF : 20000 ≤ F) (h : FI J A L) : ∀ (t q : Nat), t < q → (t = 0 ∨ t + 21 ≤ L.length) → l_Archive_findEnd_11 F q 24 (nI t - 1) (YW J A s Q) = some (opI (feS L t), YW J A s Q) := by
  have h3 := h.2.2.2.1
  have hb := h.2.2.2.2
  intro t
  induction t with
  | zero =>
    intro q hq _
    obtain ⟨q, rfl⟩ : ∃ q', q = q' + 1 := ⟨q - 1, by omega⟩
    show b_Archive_findEnd_11 F (l_Archive_findEnd_11 F q) 24 (nI 0 - 1) _ = _
    unfold b_Archive_findEnd_11
    rw [if_pos (by decide)]
    rfl
  | succ t ih =>
    intro q hq ht
    obtain ⟨q, rfl⟩ : ∃ q', q = q' + 1 := ⟨q - 1, by omega⟩
    show b_Archive_findEnd_11 F (l_Archive_findEnd_11 F q) 24 (nI (t + 1) - 1) _ = _
    have ih' := ih q (by omega) (by omega)
    have e7 : b_Archive_findEnd_77 F (l_Archive_findEnd_11 F q) 24 (nI t) (YW J A s Q) = some (opI (feS L t), YW J A s Q) := by
      unfold b_Archive_findEnd_77
      rw [← Int32.sub_eq_add_neg]
      exact ih'
    unfold b_Archive_findEnd_11
    rw [nI_pred, if_neg (nI_pos (by omega))]
    simp only [wg_A, Option.bind_some, R_a hr3]
    rw [ag_ (by decide) (by omega) (take_get h.2.2.1 (show t < L.length by omega)), Option.bind_some]
    by_cases h80 : L[t] = 80
    · rw [if_pos h80, R_o hr3, Option.bind_some, show (4 : Int32) = nI 4 from rfl, W_number hF h (by omega) (by decide), Option.bind_some]
      simp only []
      unfold feS
      by_cases hm : nvL L t 4 = 101010256
      · rw [show (101010256 : Int64) = lN_ 101010256 from rfl, if_pos ((lg_ln (nvL_64 hb (by decide)) (by decide)).mpr hm)]
        simp only [wg_A, Option.bind_some, R_o hr3]
        rw [show (20 : Int32) = nI 20 from rfl, nI_add, show (2 : Int32) = nI 2 from rfl, W_number hF h (by omega) (by decide), Option.bind_some]
        have h16 := nvL_16 (p := t + 20) hb
        simp only [wg_A, Option.bind_some, R_1 hr3, h.2.1]
        rw [show (22 : Int32) = nI 22 from rfl, nI_add, ex_bv (by omega), ex_bv (by omega), ln_add]
        by_cases hl : t + 22 + nvL L (t + 20) 2 = L.length
        · rw [if_pos ((lg_ln (by omega) (by omega)).mpr hl), if_pos ⟨hm, hl⟩]
          rfl
        · rw [if_neg (fun q => hl ((lg_ln (by omega) (by omega)).mp q)), if_neg (fun q => hl q.2)]
          exact e7
      · rw [show (101010256 : Int64) = lN_ 101010256 from rfl, if_neg (fun q => hm ((lg_ln (nvL_64 hb (by decide)) (by decide)).mp q)), if_neg (fun q => hm q.1)]
        exact e7
    · rw [if_neg h80]
      unfold feS
      rw [if_neg]
      · exact e7
      · intro q
        have e := nvL_mod (p := t) (n := 4) hb (by omega) (by decide)
        rw [q.1] at e
        have hx := (isB_bN (hb L[t] (List.getElem_mem (by omega)))).2
        rw [← e] at hx
        exact h80 hx
theorem c_findEnd (hF : 20000 ≤ F) (h : FI J A L) : f_Archive_findEnd F 24 (YW J A s Q) = some (opI (feS L (L.length - 21)), YW J A s Q) := by
  have h3 := h.2.2.2.1
  unfold f_Archive_findEnd b_Archive_findEnd_0
  simp only [wg_A, Option.bind_some, R_1 hr3, h.2.1]
  by_cases h22 : 22 ≤ L.length
  · rw [show (22 : Int32) = nI 22 from rfl, pk_sub h22]
    have := c_fe_l (s := s) (Q := Q) hF h (L.length - 21) F (by omega) (by omega)
    rw [show L.length - 21 = L.length - 22 + 1 by omega, nI_pred] at this
    rw [this, show L.length - 21 = L.length - 22 + 1 by omega]
  · obtain ⟨q, rfl⟩ : ∃ q', F = q' + 1 := ⟨F - 1, by omega⟩
    show b_Archive_findEnd_11 _ (l_Archive_findEnd_11 _ q) 24 _ _ = _
    unfold b_Archive_findEnd_11
    rw [if_pos (show nI L.length - 22 < 0 from pk_sneg (b := 22) (by omega) (by omega)), show L.length - 21 = 0 by omega]
    rfl
theorem m_fe_l (hF : 20000 ≤ F) (h : GF J A L) : ∀ (t q : Nat), t < q → (t = 0 ∨ t + 21 ≤ L.length) → l_Model_findEnd_8 F q 39 (nI t - 1) (YW J A s Q) = some (opI (feS L t), YW J A s Q) := by
  have h3 := h.2.2.2.1
  have hb := h.2.2.2.2
  intro t
  induction t with
  | zero =>
    intro q hq _
    obtain ⟨q, rfl⟩ : ∃ q', q = q' + 1 := ⟨q - 1, by omega⟩
    show b_Model_findEnd_8 F (l_Model_findEnd_8 F q) 39 (nI 0 - 1) _ = _
    unfold b_Model_findEnd_8
    rw [if_pos (by decide)]
    rfl
  | succ t ih =>
    intro q hq ht
    obtain ⟨q, rfl⟩ : ∃ q', q = q' + 1 := ⟨q - 1, by omega⟩
    show b_Model_findEnd_8 F (l_Model_findEnd_8 F q) 39 (nI (t + 1) - 1) _ = _
    have ih' := ih q (by omega) (by omega)
    have e7 : b_Model_findEnd_47 F (l_Model_findEnd_8 F q) 39 (nI t) (YW J A s Q) = some (opI (feS L t), YW J A s Q) := by
      unfold b_Model_findEnd_47
      rw [← Int32.sub_eq_add_neg]
      exact ih'
    unfold b_Model_findEnd_8
    rw [nI_pred, if_neg (nI_pos (by omega))]
    simp only [wo_M, Option.bind_some]
    rw [show (4 : Int32) = nI 4 from rfl, M_number hF h (by omega) (by decide), Option.bind_some]
    simp only []
    unfold feS
    by_cases hm : nvL L t 4 = 101010256
    · rw [show (101010256 : Int64) = lN_ 101010256 from rfl, if_pos ((lg_ln (nvL_64 hb (by decide)) (by decide)).mpr hm)]
      simp only [wo_M, Option.bind_some]
      rw [show (20 : Int32) = nI 20 from rfl, nI_add, M_two h (by omega), Option.bind_some]
      have h16 := nvL_16 (p := t + 20) hb
      simp only [wg_M, Option.bind_some, h.2.1]
      rw [show (22 : Int32) = nI 22 from rfl, pk_sub (by omega), pk_sub (by omega)]
      by_cases hl : t + 22 + nvL L (t + 20) 2 = L.length
      · rw [if_pos ((nI_eq (by omega) (by omega)).mpr (by omega)), if_pos ⟨hm, hl⟩]
        rfl
      · rw [if_neg (fun q => hl (by have := (nI_eq (by omega) (by omega)).mp q; omega)), if_neg (fun q => hl q.2)]
        exact e7
    · rw [show (101010256 : Int64) = lN_ 101010256 from rfl, if_neg (fun q => hm ((lg_ln (nvL_64 hb (by decide)) (by decide)).mp q)), if_neg (fun q => hm q.1)]
      exact e7
theorem m_findEnd (hF : 20000 ≤ F) (h : GF J A L) : f_Model_findEnd F 39 (YW J A s Q) = some (opI (feS L (L.length - 21)), YW J A s Q) := by
  have h3 := h.2.2.2.1
  unfold f_Model_findEnd b_Model_findEnd_0
  simp only [wg_M, Option.bind_some, h.2.1]
  by_cases h22 : 22 ≤ L.length
  · rw [show (22 : Int32) = nI 22 from rfl, pk_sub h22]
    have := m_fe_l (s := s) (Q := Q) hF h (L.length - 21) F (by omega) (by omega)
    rw [show L.length - 21 = L.length - 22 + 1 by omega, nI_pred] at this
    rw [this, show L.length - 21 = L.length - 22 + 1 by omega]
  · obtain ⟨q, rfl⟩ : ∃ q', F = q' + 1 := ⟨F - 1, by omega⟩
    show b_Model_findEnd_8 _ (l_Model_findEnd_8 _ q) 39 _ _ = _
    unfold b_Model_findEnd_8
    rw [if_pos (show nI L.length - 22 < 0 from pk_sneg (b := 22) (by omega) (by omega)), show L.length - 21 = 0 by omega]
    rfl
theorem c_counts {a b : Nat} (ha : a < 2 ^ 64) (hb : b < 2 ^ 64) : f_Archive_takeCounts F 24 (lN_ a) (lN_ b) (YW J A s Q) = if a = b ∧ a ≤ 8 then some (1, YW (pj J 24 3 (nI a)) A s Q) else some (0, YW J A s Q) := by
  unfold f_Archive_takeCounts b_Archive_takeCounts_0 b_Archive_takeCounts_20
  rw [show (8 : Int64) = lN_ 8 from rfl]
  by_cases h1 : a = b
  · rw [if_pos ((lg_ln ha hb).mpr h1)]
    have hin := ln_in (a := a) (b := 8) ha (by decide)
    by_cases h2 : a ≤ 8
    · have hi := hin.mpr h2
      rw [if_neg (fun q => Int64.not_lt.mpr hi.1 (lg_neg.mp q)), if_pos (Int32.not_lt.mp (fun q => Int64.not_lt.mpr hi.2 (lg_pos.mp q))), if_pos ⟨h1, h2⟩]
      simp only [wp_A, Option.bind_some, ln_i32]
    · rw [if_neg (fun q : a = b ∧ a ≤ 8 => h2 q.2)]
      by_cases h3 : (0 : Int64) ≤ lN_ a
      · rw [if_neg (fun q => Int64.not_lt.mpr h3 (lg_neg.mp q)), if_neg]
        intro q
        exact h2 (hin.mp ⟨h3, Int64.not_lt.mp (fun z => Int32.not_lt.mpr q (lg_pos.mpr z))⟩)
      · rw [if_pos (lg_neg.mpr (Int64.not_le.mp h3))]
  · rw [if_neg (fun q => h1 ((lg_ln ha hb).mp q)), if_neg (fun q => h1 q.1)]
theorem c_bounds {a b e : Nat} (ha : a < 2 ^ 64) (hb : b < 2 ^ 64) (he : e < 2 ^ 31) : f_Archive_takeBounds F 24 (lN_ a) (lN_ b) (nI e) (YW J A s Q) = if a ≤ e ∧ b = e - a then some (1, YW (pj (pj J 24 4 (nI a)) 24 5 (nI e)) A s Q) else some (0, YW J A s Q) := by
  unfold f_Archive_takeBounds b_Archive_takeBounds_0 b_Archive_takeBounds_24
  rw [ex_bv he]
  have hin := ln_in (a := a) (b := e) ha (by omega)
  by_cases h2 : a ≤ e
  · have hi := hin.mpr h2
    have es : lN_ e - lN_ a = lN_ (e - a) := by
      have := ln_add (e - a) a
      rw [Nat.sub_add_cancel h2] at this
      rw [← this, Int64.add_sub_cancel]
    rw [if_neg (fun q => Int64.not_lt.mpr hi.1 (lg_neg.mp q)), if_neg (fun q => Int64.not_lt.mpr hi.2 (lg_pos.mp q)), es]
    by_cases h3 : b = e - a
    · rw [if_pos ((lg_ln hb (by omega)).mpr h3), if_pos ⟨h2, h3⟩]
      simp only [wp_A, Option.bind_some, ln_i32]
    · rw [if_neg (fun q => h3 ((lg_ln hb (by omega)).mp q)), if_neg (fun q => h3 q.2)]
  · rw [if_neg (fun q : a ≤ e ∧ b = e - a => h2 q.1)]
    by_cases h3 : (0 : Int64) ≤ lN_ a
    · rw [if_neg (fun q => Int64.not_lt.mpr h3 (lg_neg.mp q)), if_pos]
      exact lg_pos.mpr (Int64.not_le.mp (fun z => h2 (hin.mp ⟨h3, z⟩)))
    · rw [if_pos (lg_neg.mpr (Int64.not_le.mp h3))]
end Fe
