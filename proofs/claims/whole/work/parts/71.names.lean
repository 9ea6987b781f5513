/-! Names. -/
def nmS (L : List Int32) : Nat → Nat → Nat → Option Nat
  | _, 0, acc => some acc
  | p, k + 1, acc => if 33 ≤ nvL L p 1 ∧ nvL L p 1 ≤ 126 then nmS L (p + 1) k (256 * acc + nvL L p 1) else none
def nameS (L : List Int32) (p n : Nat) : Option Nat := if 1 ≤ n ∧ n ≤ 3 then nmS L p n 0 else none
theorem nvL_1 {L : List Int32} {p : Nat} (hp : p < L.length) : nvL L p 1 = bN L[p] := by
  unfold nvL
  rw [List.drop_eq_getElem_cons hp, List.take_succ_cons]
  show bN L[p] + 256 * 0 = _
  omega
theorem or32 {a b : Nat} (ha : a < 2 ^ 16) (hb : b < 256) : (nI a <<< ((8 : Int32) &&& 31)) ||| nI b = nI (256 * a + b) := by
  rw [pk_shlN ((8 : Int32) &&& 31) 8 (by decide) (by omega)]
  apply Int32.toBitVec_inj.mp
  rw [Int32.toBitVec_or]
  apply BitVec.eq_of_toNat_eq
  rw [BitVec.toNat_or, pk_tn (by omega), pk_tn (by omega), pk_tn (by omega), Nat.mul_comm a, Nat.mul_comm 256, Nat.mul_comm a, ← Nat.two_pow_add_eq_or_of_lt (i := 8) hb]
def nmI : Option Nat → Int32
  | none => -1
  | some v => nI v
def nm0 : Option Nat → Nat
  | none => 0
  | some v => v
section Na
variable {J : yJ} {A : yA} {s : Nat} {Q : zW} {L : List Int32} {F : Nat}
theorem isNm {b : Nat} (hb : b < 256) (w : zW) : f_Zip_isNameByte F (nI b) w = some (if 33 ≤ b ∧ b ≤ 126 then 1 else 0, w) := by
  unfold f_Zip_isNameByte b_Zip_isNameByte_0 b_Zip_isNameByte_16
  by_cases h1 : 33 ≤ b
  · rw [if_neg (show ¬ nI b < 33 from nI_nlt (b := 33) h1 (by omega))]
    by_cases h2 : b ≤ 126
    · rw [if_neg (show ¬ 126 < nI b from nI_nlt (a := 126) h2 (by omega)), if_pos ⟨h1, h2⟩]
    · rw [if_pos (show 126 < nI b from nI_lt (a := 126) (by omega) (by omega)), if_neg (fun q => h2 q.2)]
  · rw [if_pos (show nI b < 33 from nI_lt (b := 33) (by omega) (by omega)), if_neg (fun q => h1 q.1)]
theorem c_name_l (hF : 20000 ≤ F) (h : FI J A L) {en : Nat} (he : en ≤ L.length) : ∀ (k m p acc : Nat), p + k = en → k < m → acc < 256 ^ (3 - k) → k ≤ 3 → l_Archive_readName_21 F m 24 (nI en) (nI acc) (nI p) (YW J A s Q) = some (nmI (nmS L p k acc), YW J A s Q) := by
  have h3 := h.2.2.2.1
  have hrw : rw_ (YW J A s Q) 3 4 1600 L (J 3 2) := R_rw hr3 h.1 h.2.1 h.2.2.1
  intro k
  induction k with
  | zero =>
    intro m p acc hp hm _ _
    obtain ⟨m, rfl⟩ : ∃ q', m = q' + 1 := ⟨m - 1, by omega⟩
    show b_Archive_readName_21 F (l_Archive_readName_21 F m) 24 (nI en) (nI acc) (nI p) _ = _
    unfold b_Archive_readName_21
    rw [if_pos (nI_le (by omega) (by omega))]
    rfl
  | succ k ih =>
    intro m p acc hp hm ha hk
    obtain ⟨m, rfl⟩ : ∃ q', m = q' + 1 := ⟨m - 1, by omega⟩
    show b_Archive_readName_21 F (l_Archive_readName_21 F m) 24 (nI en) (nI acc) (nI p) _ = _
    unfold b_Archive_readName_21
    have hlt : p < L.length := by omega
    have hb := isB_bN (h.2.2.2.2 L[p] (List.getElem_mem hlt))
    have hacc : acc < 2 ^ 16 := Nat.lt_of_lt_of_le ha (Nat.le_trans (Nat.pow_le_pow_right (by decide) (show 3 - (k + 1) ≤ 2 by omega)) (by decide))
    rw [if_neg (nI_ge (by omega) (by omega))]
    simp only [wg_A, Option.bind_some, R_o hr3, rw_get F hrw hlt]
    rw [hb.2, isNm hb.1, Option.bind_some]
    simp only []
    show _ = some (nmI (if 33 ≤ nvL L p 1 ∧ nvL L p 1 ≤ 126 then nmS L (p + 1) k (256 * acc + nvL L p 1) else none), _)
    rw [nvL_1 hlt]
    by_cases hc : 33 ≤ bN L[p] ∧ bN L[p] ≤ 126
    · rw [if_pos hc, if_pos hc, if_neg (show ¬ (1 : Int32) = 0 by decide)]
      simp only [wg_A, Option.bind_some, R_o hr3, rw_get F hrw hlt]
      have e : (nI acc <<< ((8 : Int32) &&& 31)) ||| L[p] = nI (256 * acc + bN L[p]) := by
        conv => lhs; rw [hb.2]
        exact or32 hacc hb.1
      rw [e, nI_1, ih m (p + 1) _ (by omega) (by omega) ?_ (by omega)]
      rw [show 3 - k = 3 - (k + 1) + 1 by omega, Nat.pow_succ]
      omega
    · rw [if_neg hc, if_neg hc, if_pos rfl]
      rfl
theorem c_name (hF : 20000 ≤ F) (h : FI J A L) {p n : Nat} (hp : p + n ≤ L.length) : f_Archive_readName F 24 (nI p) (nI (p + n)) (YW J A s Q) = some (nmI (nameS L p n), YW J A s Q) := by
  have h3 := h.2.2.2.1
  unfold f_Archive_readName b_Archive_readName_0 b_Archive_readName_14 nameS
  rw [pk_sub (by omega), show p + n - p = n by omega]
  by_cases h1 : 1 ≤ n
  · rw [if_neg (show ¬ nI n < 1 from nI_nlt (b := 1) h1 (by omega))]
    by_cases h2 : n ≤ 3
    · rw [if_pos (show nI n ≤ 3 from nI_le (b := 3) h2 (by omega)), if_pos ⟨h1, h2⟩]
      exact c_name_l hF h hp n F p 0 rfl (by omega) (Nat.pow_pos (by decide)) h2
    · rw [if_neg (show ¬ nI n ≤ 3 from nI_ge (a := 3) (by omega) (by omega)), if_neg (fun q => h2 q.2)]
      rfl
  · rw [if_pos (show nI n < 1 from nI_lt (b := 1) (by omega) (by omega)), if_neg (fun q => h1 q.1)]
    rfl
theorem nmS_pos {L : List Int32} : ∀ (k p acc v : Nat), nmS L p k acc = some v → (0 < acc ∨ 0 < k) → 0 < v ∧ v < 256 ^ k * (acc + 1)
  | 0, p, acc, v, h, h1 => by
    cases h
    omega
  | k + 1, p, acc, v, h, h1 => by
    unfold nmS at h
    split at h
    · rename_i hc
      obtain ⟨a, b⟩ := nmS_pos k (p + 1) _ v h (Or.inl (by omega))
      refine ⟨a, Nat.lt_of_lt_of_le b ?_⟩
      rw [Nat.pow_succ, Nat.mul_assoc]
      exact Nat.mul_le_mul_left _ (by omega)
    · cases h
theorem m_name_b {p n : Nat} (h : GF J A L) (hn : n ≤ 3) (hp : p + n ≤ L.length) : ∀ (m k : Nat), k ≤ n → n - k < m → 0 < k → l_Model_nameAt_5 F m 39 (nI p) (nI n) 0 (nI k) (YW J A s Q) = some (0, YW J A s Q) := by
  have h3 := h.2.2.2.1
  intro m
  induction m with
  | zero => intro k _ h2; omega
  | succ m ih =>
    intro k hk hm h0
    show b_Model_nameAt_5 F (l_Model_nameAt_5 F m) 39 (nI p) (nI n) 0 (nI k) _ = _
    unfold b_Model_nameAt_5 b_Model_nameAt_69
    by_cases hlt : k < n
    · rw [if_neg (nI_ge hlt (by omega)), if_neg (show ¬ (4 : Int32) ≤ nI n from nI_ge (b := 4) (by omega) (by decide))]
      simp only [wg_M, Option.bind_some]
      rw [nI_add, ag_ (by decide) (by omega) (take_get h.2.2.1 (show p + k < L.length by omega)), Option.bind_some]
      unfold b_Model_nameAt_50 b_Model_nameAt_62
      rw [if_neg (nI_nle h0 (by omega)), if_pos trivial, nI_1, ih (k + 1) (by omega) (by omega) (by omega)]
      rw [ite_self, ite_self]
    · rw [if_pos (nI_le (by omega) (by omega))]
theorem m_name_l {p n : Nat} (h : GF J A L) (hn : n ≤ 3) (hp : p + n ≤ L.length) : ∀ (m k acc : Nat), k ≤ n → n - k < m → (k = 0 ∧ acc = 0 ∨ 0 < k ∧ 0 < acc) → acc < 256 ^ k → l_Model_nameAt_5 F m 39 (nI p) (nI n) (nI acc) (nI k) (YW J A s Q) = some (nI (nm0 (nmS L (p + k) (n - k) acc)), YW J A s Q) := by
  have h3 := h.2.2.2.1
  intro m
  induction m with
  | zero => intro k acc _ h2; omega
  | succ m ih =>
    intro k acc hk hm h0 ha
    show b_Model_nameAt_5 F (l_Model_nameAt_5 F m) 39 (nI p) (nI n) (nI acc) (nI k) _ = _
    unfold b_Model_nameAt_5 b_Model_nameAt_69
    by_cases hlt : k < n
    · have hl : p + k < L.length := by omega
      have hb := isB_bN (h.2.2.2.2 L[p + k] (List.getElem_mem hl))
      have hacc : acc < 2 ^ 16 := Nat.lt_of_lt_of_le ha (Nat.le_trans (Nat.pow_le_pow_right (by decide) (show k ≤ 2 by omega)) (by decide))
      rw [if_neg (nI_ge hlt (by omega)), if_neg (show ¬ (4 : Int32) ≤ nI n from nI_ge (b := 4) (by omega) (by decide))]
      simp only [wg_M, Option.bind_some]
      rw [nI_add, ag_ (by decide) (by omega) (take_get h.2.2.1 hl), Option.bind_some, show n - k = n - (k + 1) + 1 by omega]
      show _ = some (nI (nm0 (if 33 ≤ nvL L (p + k) 1 ∧ nvL L (p + k) 1 ≤ 126 then nmS L (p + k + 1) (n - (k + 1)) (256 * acc + nvL L (p + k) 1) else none)), _)
      rw [nvL_1 hl]
      have good : b_Model_nameAt_54 F (l_Model_nameAt_5 F m) 39 (nI p) (nI n) (nI acc) (nI k) (nI (bN L[p + k])) (YW J A s Q) = l_Model_nameAt_5 F m 39 (nI p) (nI n) (nI (256 * acc + bN L[p + k])) (nI (k + 1)) (YW J A s Q) := by
        unfold b_Model_nameAt_54 b_Model_nameAt_62
        rw [show (256 : Int32) = nI 256 from rfl, pk_mul, nI_add, nI_1]
      have bad : b_Model_nameAt_50 F (l_Model_nameAt_5 F m) 39 (nI p) (nI n) (nI k) (YW J A s Q) = some (0, YW J A s Q) := by
        unfold b_Model_nameAt_50 b_Model_nameAt_62
        rw [nI_1, m_name_b h hn hp m (k + 1) (by omega) (by omega) (by omega)]
      conv => lhs; rw [hb.2]
      by_cases h1 : 33 ≤ bN L[p + k]
      · rw [if_neg (show ¬ nI (bN L[p + k]) < 33 from nI_nlt (b := 33) h1 (by omega))]
        by_cases h2 : bN L[p + k] ≤ 126
        · have hc : 33 ≤ bN L[p + k] ∧ bN L[p + k] ≤ 126 := ⟨h1, h2⟩
          rw [if_neg (show ¬ 126 < nI (bN L[p + k]) from nI_nlt (a := 126) h2 (by omega)), if_pos hc, good]
          have rec_ := ih (k + 1) (256 * acc + bN L[p + k]) (by omega) (by omega) (Or.inr ⟨by omega, by omega⟩) (by rw [Nat.pow_succ]; omega)
          rw [rec_, bad]
          rcases h0 with ⟨rfl, rfl⟩ | ⟨h4, h5⟩
          · rw [if_pos (by decide)]
          · rw [if_neg (nI_nle h4 (by omega)), if_neg (nI_ne0 h5 (by omega)), Nat.add_assoc]
        · rw [if_pos (show 126 < nI (bN L[p + k]) from nI_lt (a := 126) (by omega) (by omega)), if_neg (fun q => h2 q.2), bad]
          rfl
      · rw [if_pos (show nI (bN L[p + k]) < 33 from nI_lt (b := 33) (by omega) (by omega)), if_neg (fun q => h1 q.1), bad]
        rfl
    · have : k = n := by omega
      subst this
      rw [if_pos (nI_le (by omega) (by omega)), Nat.sub_self]
      rfl
theorem m_name (hF : 20000 ≤ F) (h : GF J A L) {p n : Nat} (hp : p + n ≤ L.length) : f_Model_nameAt F 39 (nI p) (nI n) (YW J A s Q) = some (nI (nm0 (nameS L p n)), YW J A s Q) := by
  have h3 := h.2.2.2.1
  unfold f_Model_nameAt b_Model_nameAt_0 nameS
  by_cases h2 : n ≤ 3
  · have e := m_name_l (F := F) (s := s) (Q := Q) h h2 hp F 0 0 (Nat.zero_le _) (by omega) (Or.inl ⟨rfl, rfl⟩) (by decide)
    rw [Nat.sub_zero, Nat.add_zero] at e
    rw [show (0 : Int32) = nI 0 from rfl, e]
    by_cases h1 : 1 ≤ n
    · rw [if_pos ⟨h1, h2⟩]
    · have : n = 0 := by omega
      subst this
      rfl
  · rw [if_neg (fun q => h2 q.2)]
    obtain ⟨q, rfl⟩ : ∃ q', F = q' + 1 := ⟨F - 1, by omega⟩
    show b_Model_nameAt_5 _ (l_Model_nameAt_5 _ q) 39 (nI p) (nI n) 0 0 _ = _
    unfold b_Model_nameAt_5 b_Model_nameAt_69
    rw [if_pos (show (4 : Int32) ≤ nI n from nI_le (a := 4) (by omega) (by omega)), ite_self]
    rfl
end Na
