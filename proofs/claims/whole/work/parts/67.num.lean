/-! Numbers read from the file, by the class and by the reference. -/
/-- what the class knows of the file -/
def FI (J : yJ) (A : yA) (L : List Int32) : Prop := Sh A ∧ J 3 1 = nI L.length ∧ (A 4).take L.length = L ∧ L.length ≤ 1600 ∧ ∀ b ∈ L, isB b
/-- what the reference knows of it -/
def GF (J : yJ) (A : yA) (L : List Int32) : Prop := Sh A ∧ J 39 3 = nI L.length ∧ (A 41).take L.length = L ∧ L.length ≤ 1600 ∧ ∀ b ∈ L, isB b
section Nm
variable {J : yJ} {A : yA} {s : Nat} {Q : zW} {L : List Int32} {F p n : Nat}
theorem FI.pj (h : FI J A L) {o k : Nat} {x : Int32} (ho : o ≠ 3 ∨ k ≠ 1) : FI (pj J o k x) A L := by
  refine ⟨h.1, ?_, h.2.2⟩
  rcases ho with ho | ho
  · rw [pj_o (Ne.symm ho)]; exact h.2.1
  · rw [pj_k (Ne.symm ho)]; exact h.2.1
theorem FI.ud (h : FI J A L) {a : Nat} {xs : List Int32} (ha : a ≠ 4) (hl : xs.length = (A a).length) : FI J (ud A a xs) L :=
  ⟨h.1.ud hl, h.2.1, by rw [ud_n (Ne.symm ha)]; exact h.2.2.1, h.2.2.2⟩
theorem GF.pj (h : GF J A L) {o k : Nat} {x : Int32} (ho : o ≠ 39 ∨ k ≠ 3) : GF (pj J o k x) A L := by
  refine ⟨h.1, ?_, h.2.2⟩
  rcases ho with ho | ho
  · rw [pj_o (Ne.symm ho)]; exact h.2.1
  · rw [pj_k (Ne.symm ho)]; exact h.2.1
theorem GF.ud (h : GF J A L) {a : Nat} {xs : List Int32} (ha : a ≠ 41) (hl : xs.length = (A a).length) : GF J (ud A a xs) L :=
  ⟨h.1.ud hl, h.2.1, by rw [ud_n (Ne.symm ha)]; exact h.2.2.1, h.2.2.2⟩
theorem take_cons {i : Nat} (h : p + i < L.length) (hn : i < n) : (L.drop (p + i)).take (n - i) = L[p + i] :: (L.drop (p + (i + 1))).take (n - (i + 1)) := by
  rw [List.drop_eq_getElem_cons h, show n - i = (n - (i + 1)) + 1 by omega, List.take_succ_cons, Nat.add_assoc]
theorem nv_le {bs : List Int32} (h : ∀ b ∈ bs, isB b) {k : Nat} (hk : bs.length ≤ k) : nv bs < 256 ^ k := Nat.lt_of_lt_of_le (nv_lt h) (Nat.pow_le_pow_right (by decide) hk)
theorem mem_dt {a b : Nat} (h : ∀ b ∈ L, isB b) : ∀ c ∈ (L.drop a).take b, isB c := fun c hc => h c (List.mem_of_mem_drop (List.mem_of_mem_take hc))
theorem nvL_lt (h : ∀ b ∈ L, isB b) : nvL L p n < 256 ^ n := nv_le (mem_dt h) (List.length_take_le _ _)
theorem number_l (h : FI J A L) (hp : p + n ≤ L.length) (hn : n ≤ 8) : ∀ (i q : Nat), i ≤ n → i < q → l_Row_number_23 F q 3 (nI p) (lN_ (nv ((L.drop (p + i)).take (n - i)))) (nI i - 1) (YW J A s Q) = some (lN_ (nvL L p n), YW J A s Q) := by
  obtain ⟨hS, h1, h2, h3, h4⟩ := h
  intro i
  induction i with
  | zero =>
    intro q _ hq
    obtain ⟨q, rfl⟩ : ∃ q', q = q' + 1 := ⟨q - 1, by omega⟩
    show b_Row_number_23 F (l_Row_number_23 F q) 3 (nI p) _ (nI 0 - 1) _ = _
    unfold b_Row_number_23
    rw [if_pos (by decide)]
    rfl
  | succ i ih =>
    intro q hi hq
    obtain ⟨q, rfl⟩ : ∃ q', q = q' + 1 := ⟨q - 1, by omega⟩
    show b_Row_number_23 F (l_Row_number_23 F q) 3 (nI p) _ (nI (i + 1) - 1) _ = _
    unfold b_Row_number_23
    have hb := isB_bN (h4 L[p + i] (List.getElem_mem (by omega)))
    have hg : aget (YW J A s Q) 4 (nI p + nI i) = some L[p + i] := by
      rw [nI_add]
      exact ag_ (by decide) (by omega) (take_get h2 (by omega))
    rw [nI_pred, if_neg (nI_pos (by omega)), R_a (Or.inr (Or.inl ⟨rfl, rfl⟩)), Option.bind_some, hg, Option.bind_some, ← Int32.sub_eq_add_neg]
    have hv : nv ((L.drop (p + (i + 1))).take (n - (i + 1))) < 256 ^ 7 := nv_le (mem_dt h4) (by rw [List.length_take]; omega)
    have e : (lN_ (nv ((L.drop (p + (i + 1))).take (n - (i + 1)))) <<< ((8 : Int32).toInt64 &&& 63)) ||| (L[p + i]).toInt64 = lN_ (nv ((L.drop (p + i)).take (n - i))) := by
      rw [take_cons (i := i) (by omega) (by omega)]
      show _ = lN_ (bN L[p + i] + 256 * _)
      have h7 : (256 : Nat) ^ 7 = 72057594037927936 := by decide
      rw [shl_ln (k := 8) (by decide) (by decide)]
      conv => lhs; rw [hb.2]
      rw [ex_bv (by omega), or_low (by omega) (by omega), Nat.add_comm, Nat.mul_comm]
    rw [e]
    exact ih q (by omega) (by omega)
theorem W_number (hF : 20000 ≤ F) (h : FI J A L) (hp : p + n ≤ L.length) (hn : n ≤ 8) : f_Row_number F 3 (nI p) (nI n) (YW J A s Q) = some (lN_ (nvL L p n), YW J A s Q) := by
  have h3 := h.2.2.2.1
  unfold f_Row_number b_Row_number_0
  rw [if_neg (nI_pos (by omega)), R_1 (Or.inr (Or.inl ⟨rfl, rfl⟩)), Option.bind_some, h.2.1, pk_sub (by omega), if_pos (nI_le (by omega) (by omega))]
  have e := number_l (F := F) (s := s) (Q := Q) h hp hn n F (Nat.le_refl _) (by omega)
  rw [Nat.sub_self, List.take_zero] at e
  exact e
theorem mnumber_l (h : GF J A L) (hp : p + n ≤ L.length) (hn : n ≤ 8) : ∀ (q i : Nat), i ≤ n → n - i < q → l_Model_number_5 F q 39 (nI p) (nI n) (lN_ (nvL L p i)) (nI i) (YW J A s Q) = some (lN_ (nvL L p n), YW J A s Q) := by
  obtain ⟨hS, h1, h2, h3, h4⟩ := h
  intro q
  induction q with
  | zero => intro i _ h2; omega
  | succ q ih =>
    intro i hi hq
    show b_Model_number_5 F (l_Model_number_5 F q) 39 (nI p) (nI n) _ (nI i) _ = _
    unfold b_Model_number_5
    by_cases hlt : i < n
    · have hb := isB_bN (h4 L[p + i] (List.getElem_mem (by omega)))
      have hg : aget (YW J A s Q) 41 (nI p + nI i) = some L[p + i] := by
        rw [nI_add]
        exact ag_ (by decide) (by omega) (take_get h2 (by omega))
      rw [if_neg (nI_ge hlt (by omega))]
      simp only [wg_M, Option.bind_some]
      rw [hg, Option.bind_some, nI_1]
      have hl : ((L.drop p).take i).length = i := by rw [List.length_take, List.length_drop]; omega
      have ht : (L.drop p).take (i + 1) = (L.drop p).take i ++ [L[p + i]] := by
        rw [List.take_succ, List.getElem?_drop, List.getElem?_eq_getElem (by omega)]
        rfl
      have hv : nvL L p i < 256 ^ i := nvL_lt h4
      have h256 : (256 : Nat) ^ i = 2 ^ (8 * i) := by rw [Nat.pow_mul]
      have e : lN_ (nvL L p i) ||| ((L[p + i]).toInt64 <<< (((8 : Int32) * nI i).toInt64 &&& 63)) = lN_ (nvL L p (i + 1)) := by
        conv => lhs; rw [hb.2]
        have hs : ((((8 : Int32) * nI i).toInt64 &&& 63).toBitVec.smod 64) = BitVec.ofNat 64 (8 * i) := by
          have h8 : i < 8 := by omega
          match i, h8 with
          | 0, _ => decide
          | 1, _ => decide
          | 2, _ => decide
          | 3, _ => decide
          | 4, _ => decide
          | 5, _ => decide
          | 6, _ => decide
          | 7, _ => decide
        have hbd : bN L[p + i] * 2 ^ (8 * i) + nvL L p i < 2 ^ 64 := by
          have h1 : bN L[p + i] * 2 ^ (8 * i) ≤ 255 * 2 ^ (8 * i) := Nat.mul_le_mul_right _ (by omega)
          have h2 : 2 ^ (8 * i) * 256 ≤ 2 ^ 64 := by
            rw [show (256 : Nat) = 2 ^ 8 from rfl, ← Nat.pow_add]
            exact Nat.pow_le_pow_right (by decide) (by omega)
          omega
        rw [ex_bv (by omega), shl_ln (k := 8 * i) hs (by omega), or_high (by omega) hbd]
        unfold nvL
        rw [ht, nv_snoc, hl, h256, Nat.mul_comm]
      rw [e]
      exact ih (i + 1) (by omega) (by omega)
    · have : i = n := by omega
      subst this
      rw [if_pos (nI_le (Nat.le_refl _) (by omega))]
theorem M_number (hF : 20000 ≤ F) (h : GF J A L) (hp : p + n ≤ L.length) (hn : n ≤ 8) : f_Model_number F 39 (nI p) (nI n) (YW J A s Q) = some (lN_ (nvL L p n), YW J A s Q) := by
  unfold f_Model_number b_Model_number_0
  have e := mnumber_l (F := F) (s := s) (Q := Q) h hp hn F 0 (Nat.zero_le _) (by omega)
  have e0 : nvL L p 0 = 0 := by unfold nvL; rw [List.take_zero]; rfl
  rw [e0] at e
  exact e
theorem nvL_2 (hp : p + 2 ≤ L.length) : nvL L p 2 = bN L[p] + 256 * bN L[p + 1] := by
  have e := take_cons (L := L) (p := p) (n := 2) (i := 0) (by omega) (by omega)
  have e2 := take_cons (L := L) (p := p) (n := 2) (i := 1) (by omega) (by omega)
  unfold nvL
  rw [show L.drop p = L.drop (p + 0) by rw [Nat.add_zero], show (2 : Nat) = 2 - 0 from rfl, e]
  show bN _ + 256 * nv ((L.drop (p + 1)).take (2 - 1)) = _
  rw [e2]
  show bN _ + 256 * (bN L[p + 1] + 256 * 0) = _
  simp
theorem M_two (h : GF J A L) (hp : p + 2 ≤ L.length) : f_Model_two F 39 (nI p) (YW J A s Q) = some (nI (nvL L p 2), YW J A s Q) := by
  obtain ⟨hS, h1, h2, h3, h4⟩ := h
  have hb := isB_bN (h4 L[p] (List.getElem_mem (by omega)))
  have hb1 := isB_bN (h4 L[p + 1] (List.getElem_mem (by omega)))
  unfold f_Model_two b_Model_two_0
  simp only [wg_M, Option.bind_some]
  rw [ag_ (by decide) (by omega) (take_get h2 (show p < L.length by omega)), Option.bind_some, nI_1, ag_ (by decide) (by omega) (take_get h2 (show p + 1 < L.length by omega)), Option.bind_some, nvL_2 hp]
  conv => lhs; rw [hb.2, hb1.2]
  rw [show (256 : Int32) = nI 256 from rfl, pk_mul, nI_add]
end Nm
theorem ln_i32 (n : Nat) : (lN_ n).toInt32 = nI n := by
  apply Int32.toBitVec_inj.mp
  show (BitVec.ofNat 64 n).signExtend 32 = BitVec.ofNat 32 n
  rw [BitVec.signExtend_eq_setWidth_of_le _ (by decide)]
  apply BitVec.eq_of_toNat_eq
  rw [BitVec.toNat_setWidth, BitVec.toNat_ofNat, BitVec.toNat_ofNat]
  omega
theorem lg_z {u v : Int64} : lg_cmp u v = 0 ↔ u = v := by
  unfold lg_cmp
  by_cases h1 : u > v
  · rw [if_pos h1]
    exact ⟨fun q => absurd q (by decide), fun q => (Int64.lt_irrefl (q ▸ h1 : u < u)).elim⟩
  · rw [if_neg h1]
    by_cases h2 : u = v
    · rw [if_pos h2]
      exact ⟨fun _ => h2, fun _ => rfl⟩
    · rw [if_neg h2]
      exact ⟨fun q => absurd q (by decide), fun q => absurd q h2⟩
theorem ln_inj {a b : Nat} (ha : a < 2 ^ 64) (hb : b < 2 ^ 64) : lN_ a = lN_ b ↔ a = b := by
  constructor
  · intro h
    have := congrArg (fun z : Int64 => z.toBitVec.toNat) h
    simp only [ln_bv, BitVec.toNat_ofNat] at this
    rw [Nat.mod_eq_of_lt ha, Nat.mod_eq_of_lt hb] at this
    exact this
  · intro h; rw [h]
theorem lg_ln {a b : Nat} (ha : a < 2 ^ 64) (hb : b < 2 ^ 64) : lg_cmp (lN_ a) (lN_ b) = 0 ↔ a = b := by rw [lg_z, ln_inj ha hb]
theorem ln_toInt {a : Nat} (ha : a < 2 ^ 63) : (lN_ a).toInt = a := by
  show (BitVec.ofNat 64 a).toInt = _
  rw [BitVec.toInt_eq_toNat_bmod, BitVec.toNat_ofNat, Nat.mod_eq_of_lt (by omega)]
  rw [Int.bmod_eq_of_le (by omega) (by omega)]
theorem ln_neg {a : Nat} (h1 : 2 ^ 63 ≤ a) (h2 : a < 2 ^ 64) : (lN_ a).toInt = (a : Int) - 2 ^ 64 := by
  show (BitVec.ofNat 64 a).toInt = _
  rw [BitVec.toInt_eq_toNat_cond, BitVec.toNat_ofNat, Nat.mod_eq_of_lt h2, if_neg (by omega)]
  rfl
/-- 0 to b, signed or not -/
theorem ln_in {a b : Nat} (ha : a < 2 ^ 64) (hb : b < 2 ^ 63) : ((0 : Int64) ≤ lN_ a ∧ lN_ a ≤ lN_ b) ↔ a ≤ b := by
  have h0 : (0 : Int64).toInt = 0 := rfl
  rw [Int64.le_iff_toInt_le, Int64.le_iff_toInt_le, h0, ln_toInt hb]
  by_cases h : a < 2 ^ 63
  · rw [ln_toInt h]; omega
  · rw [ln_neg (by omega) ha]; omega
