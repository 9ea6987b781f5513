/-! Extras and names: what both sides find. -/
def recW (L : List Int32) (to : Nat) : Nat → Nat → Bool
  | 0, p => decide (p = to)
  | q + 1, p => if p + 4 ≤ to then recW L to q (p + 4 + nvL L (p + 2) 2) else decide (p = to)
def recF (L : List Int32) (to : Nat) : Nat → Nat → Option (Nat × Nat)
  | 0, _ => none
  | q + 1, p => if p + 4 ≤ to then (if nvL L p 2 = 1 then some (p + 4, nvL L (p + 2) 2) else recF L to q (p + 4 + nvL L (p + 2) 2)) else none
def xJ (J : yJ) : Option (Nat × Nat) → yJ
  | none => J
  | some (pl, len) => pj (pj J 25 3 (nI pl)) 25 4 (nI (pl + len))
def bI (b : Bool) : Int32 := if b then 1 else 0
theorem hr_sub {a b : Nat} (ha : a < 2 ^ 30) (hb : b < 2 ^ 30) {k : Nat} (hk : k < 2 ^ 30) : (nI a - nI b < nI k) ↔ a < b + k := by
  rw [Int32.lt_iff_toInt_lt, pk_sub_toInt ha hb, nI_toInt (by omega)]
  omega
section Rc
variable {J : yJ} {A : yA} {s : Nat} {Q : zW} {L : List Int32} {F to : Nat}
theorem c_open_1 (hF : 20000 ≤ F) (ht : to ≤ L.length) : ∀ (m q p : Nat) (J : yJ), FI J A L → to - p < m → to - p ≤ q → p < 2 ^ 20 → l_Extras_open_23 F m 25 (nI to) 1 (nI p) (YW J A s Q) = some ((), YW (pj J 25 1 (bI (recW L to q p))) A s Q) := by
  intro m
  induction m with
  | zero => intro q p J _ h; omega
  | succ m ih =>
    intro q p J h h1 h2 hp
    have h3 := h.2.2.2.1
    show b_Extras_open_23 F (l_Extras_open_23 F m) 25 (nI to) 1 (nI p) _ = _
    unfold b_Extras_open_23
    by_cases hc : p + 4 ≤ to
    · obtain ⟨q, rfl⟩ : ∃ q', q = q' + 1 := ⟨q - 1, by omega⟩
      have h16 := nvL_16 (p := p + 2) h.2.2.2.2
      rw [if_neg (show ¬ nI to - nI p < 4 from fun z => absurd ((hr_sub (a := to) (b := p) (k := 4) (by omega) (by omega) (by decide)).mp z) (by omega))]
      simp only [wg_X, Option.bind_some, R_o hr3]
      rw [show (2 : Int32) = nI 2 from rfl, nI_add, W_number hF h (by omega) (by decide), Option.bind_some]
      simp only []
      rw [if_neg (by decide)]
      unfold b_Extras_open_86
      rw [ln_i32, show (4 : Int32) = nI 4 from rfl, nI_add, nI_add, show p + (4 + nvL L (p + 2) 2) = p + 4 + nvL L (p + 2) 2 by omega, ih q _ J h (by omega) (by omega) (by omega)]
      have e : recW L to (q + 1) p = recW L to q (p + 4 + nvL L (p + 2) 2) := by
        show (if p + 4 ≤ to then _ else _) = _
        rw [if_pos hc]
      rw [e]
    · rw [if_pos (show nI to - nI p < 4 from (hr_sub (a := to) (b := p) (k := 4) (by omega) (by omega) (by decide)).mpr (by omega))]
      have e : recW L to q p = decide (p = to) := by
        cases q with
        | zero => rfl
        | succ q =>
          show (if p + 4 ≤ to then _ else _) = _
          rw [if_neg hc]
      rw [e]
      unfold b_Extras_open_110
      by_cases hpt : p = to
      · rw [if_pos (by rw [hpt]), if_pos (Or.inr rfl)]
        simp only [wp_X, Option.bind_some]
        rw [decide_eq_true hpt]
        rfl
      · rw [if_neg (fun z => hpt ((nI_eq (by omega) (by omega)).mp z)), if_pos (Or.inl rfl)]
        simp only [wp_X, Option.bind_some]
        rw [decide_eq_false hpt]
        rfl
theorem c_open_0 (hF : 20000 ≤ F) (ht : to ≤ L.length) : ∀ (m q p : Nat) (J : yJ), FI J A L → to - p < m → to - p ≤ q → p < 2 ^ 20 → l_Extras_open_23 F m 25 (nI to) 0 (nI p) (YW J A s Q) = some ((), YW (pj (xJ J (recF L to q p)) 25 1 (bI (recW L to q p))) A s Q) := by
  intro m
  induction m with
  | zero => intro q p J _ h; omega
  | succ m ih =>
    intro q p J h h1 h2 hp
    have h3 := h.2.2.2.1
    show b_Extras_open_23 F (l_Extras_open_23 F m) 25 (nI to) 0 (nI p) _ = _
    unfold b_Extras_open_23
    by_cases hc : p + 4 ≤ to
    · obtain ⟨q, rfl⟩ : ∃ q', q = q' + 1 := ⟨q - 1, by omega⟩
      have h16 := nvL_16 (p := p + 2) h.2.2.2.2
      have e : recW L to (q + 1) p = recW L to q (p + 4 + nvL L (p + 2) 2) := by
        show (if p + 4 ≤ to then _ else _) = _
        rw [if_pos hc]
      have e2 : recF L to (q + 1) p = if nvL L p 2 = 1 then some (p + 4, nvL L (p + 2) 2) else recF L to q (p + 4 + nvL L (p + 2) 2) := by
        show (if p + 4 ≤ to then _ else _) = _
        rw [if_pos hc]
      rw [e, e2, if_neg (show ¬ nI to - nI p < 4 from fun z => absurd ((hr_sub (a := to) (b := p) (k := 4) (by omega) (by omega) (by decide)).mp z) (by omega))]
      simp only [wg_X, Option.bind_some, R_o hr3]
      rw [show (2 : Int32) = nI 2 from rfl, nI_add, W_number hF h (by omega) (by decide), Option.bind_some]
      simp only []
      rw [if_pos trivial]
      simp only [wg_X, Option.bind_some, R_o hr3]
      rw [W_number hF h (by omega) (by decide), Option.bind_some]
      simp only []
      rw [show (1 : Int64) = lN_ 1 from rfl]
      unfold b_Extras_open_86
      by_cases hk : nvL L p 2 = 1
      · rw [if_pos ((lg_ln (nvL_64 h.2.2.2.2 (by decide)) (by decide)).mpr hk), if_pos hk]
        simp only [wp_X, wg_X, Option.bind_some]
        rw [pj_s, ln_i32, show (4 : Int32) = nI 4 from rfl, nI_add, nI_add, nI_add, nI_add, show p + (4 + nvL L (p + 2) 2) = p + 4 + nvL L (p + 2) 2 by omega]
        rw [show (1 : Int32) = 1 from rfl, c_open_1 hF ht m q _ _ ((h.pj (Or.inl (by decide))).pj (Or.inl (by decide))) (by omega) (by omega) (by omega)]
        rfl
      · rw [if_neg (fun z => hk ((lg_ln (nvL_64 h.2.2.2.2 (by decide)) (by decide)).mp z)), if_neg hk, ln_i32, show (4 : Int32) = nI 4 from rfl, nI_add, nI_add, show p + (4 + nvL L (p + 2) 2) = p + 4 + nvL L (p + 2) 2 by omega, ih q _ J h (by omega) (by omega) (by omega)]
    · rw [if_pos (show nI to - nI p < 4 from (hr_sub (a := to) (b := p) (k := 4) (by omega) (by omega) (by decide)).mpr (by omega))]
      have e : recW L to q p = decide (p = to) := by
        cases q with
        | zero => rfl
        | succ q =>
          show (if p + 4 ≤ to then _ else _) = _
          rw [if_neg hc]
      have e2 : recF L to q p = none := by
        cases q with
        | zero => rfl
        | succ q =>
          show (if p + 4 ≤ to then _ else _) = _
          rw [if_neg hc]
      rw [e, e2]
      unfold b_Extras_open_110
      by_cases hpt : p = to
      · rw [if_pos (by rw [hpt]), if_pos (Or.inr rfl)]
        simp only [wp_X, Option.bind_some]
        rw [decide_eq_true hpt]
        rfl
      · rw [if_neg (fun z => hpt ((nI_eq (by omega) (by omega)).mp z)), if_pos (Or.inl rfl)]
        simp only [wp_X, Option.bind_some]
        rw [decide_eq_false hpt]
        rfl
def rP (r : Option (Nat × Nat)) (to : Nat) : Nat := match r with
  | none => to
  | some (pl, _) => pl
def rL (r : Option (Nat × Nat)) : Nat := match r with
  | none => 0
  | some (_, len) => len
theorem c_open (hF : 20000 ≤ F) (h : FI J A L) (ht : to ≤ L.length) {p : Nat} (hp : p < 2 ^ 20) : ∃ J', f_Extras_open F 25 (nI p) (nI to) (YW J A s Q) = some ((), YW J' A s Q) ∧ (∀ o, o ≠ 25 → J' o = J o) ∧ J' 25 1 = bI (recW L to to p) ∧ J' 25 2 = 0 ∧ J' 25 3 = nI (rP (recF L to to p) to) ∧ J' 25 4 = nI (rP (recF L to to p) to + rL (recF L to to p)) := by
  have h3 := h.2.2.2.1
  refine ⟨pj (xJ (pj (pj (pj J 25 2 0) 25 3 (nI to)) 25 4 (nI to)) (recF L to to p)) 25 1 (bI (recW L to to p)), ?_, ?_⟩
  · unfold f_Extras_open b_Extras_open_0
    simp only [wp_X, Option.bind_some]
    exact c_open_0 hF ht F to p _ (((h.pj (Or.inl (by decide))).pj (Or.inl (by decide))).pj (Or.inl (by decide))) (by omega) (by omega) hp
  · generalize recF L to to p = r
    cases r with
    | none =>
      refine ⟨fun o ho => ?_, pj_s, ?_, ?_, ?_⟩
      · show pj (pj (pj (pj J 25 2 0) 25 3 (nI to)) 25 4 (nI to)) 25 1 _ o = _
        rw [pj_row ho, pj_row ho, pj_row ho, pj_row ho]
      · show pj (pj (pj (pj J 25 2 0) 25 3 (nI to)) 25 4 (nI to)) 25 1 _ 25 2 = _
        rw [pj_k (by decide), pj_k (by decide), pj_k (by decide), pj_s]
      · show pj (pj (pj (pj J 25 2 0) 25 3 (nI to)) 25 4 (nI to)) 25 1 _ 25 3 = _
        rw [pj_k (by decide), pj_k (by decide), pj_s]
        rfl
      · show pj (pj (pj (pj J 25 2 0) 25 3 (nI to)) 25 4 (nI to)) 25 1 _ 25 4 = _
        rw [pj_k (by decide), pj_s]
        rfl
    | some x =>
      obtain ⟨pl, len⟩ := x
      refine ⟨fun o ho => ?_, pj_s, ?_, ?_, ?_⟩
      · show pj (pj (pj (pj (pj (pj J 25 2 0) 25 3 (nI to)) 25 4 (nI to)) 25 3 (nI pl)) 25 4 (nI (pl + len))) 25 1 _ o = _
        rw [pj_row ho, pj_row ho, pj_row ho, pj_row ho, pj_row ho, pj_row ho]
      · show pj (pj (pj (pj (pj (pj J 25 2 0) 25 3 (nI to)) 25 4 (nI to)) 25 3 (nI pl)) 25 4 (nI (pl + len))) 25 1 _ 25 2 = _
        rw [pj_k (by decide), pj_k (by decide), pj_k (by decide), pj_k (by decide), pj_k (by decide), pj_s]
      · show pj (pj (pj (pj (pj (pj J 25 2 0) 25 3 (nI to)) 25 4 (nI to)) 25 3 (nI pl)) 25 4 (nI (pl + len))) 25 1 _ 25 3 = _
        rw [pj_k (by decide), pj_k (by decide), pj_s]
        rfl
      · show pj (pj (pj (pj (pj (pj J 25 2 0) 25 3 (nI to)) 25 4 (nI to)) 25 3 (nI pl)) 25 4 (nI (pl + len))) 25 1 _ 25 4 = _
        rw [pj_k (by decide), pj_s]
        rfl
theorem m_are_l (h : GF J A L) (ht : to ≤ L.length) : ∀ (m q p : Nat), to - p < m → to - p ≤ q → p < 2 ^ 20 → l_Model_areRecords_2 F m 39 (nI to) (nI p) (YW J A s Q) = some (bI (recW L to q p), YW J A s Q) := by
  have h3 := h.2.2.2.1
  intro m
  induction m with
  | zero => intro q p h; omega
  | succ m ih =>
    intro q p h1 h2 hp
    show b_Model_areRecords_2 F (l_Model_areRecords_2 F m) 39 (nI to) (nI p) _ = _
    unfold b_Model_areRecords_2
    rw [show (4 : Int32) = nI 4 from rfl, nI_add]
    by_cases hc : p + 4 ≤ to
    · obtain ⟨q, rfl⟩ : ∃ q', q = q' + 1 := ⟨q - 1, by omega⟩
      have h16 := nvL_16 (p := p + 2) h.2.2.2.2
      rw [if_neg (nI_nlt hc (by omega))]
      simp only [wo_M, Option.bind_some]
      rw [show (2 : Int32) = nI 2 from rfl, nI_add, M_two h (by omega), Option.bind_some]
      simp only []
      rw [nI_add, ih q _ (by omega) (by omega) (by omega)]
      have e : recW L to (q + 1) p = recW L to q (p + 4 + nvL L (p + 2) 2) := by
        show (if p + 4 ≤ to then _ else _) = _
        rw [if_pos hc]
      rw [e]
    · rw [if_pos (nI_lt (by omega) (by omega))]
      have e : recW L to q p = decide (p = to) := by
        cases q with
        | zero => rfl
        | succ q =>
          show (if p + 4 ≤ to then _ else _) = _
          rw [if_neg hc]
      rw [e]
      by_cases hpt : p = to
      · rw [if_pos (by rw [hpt]), decide_eq_true hpt]
        rfl
      · rw [if_neg (fun z => hpt ((nI_eq (by omega) (by omega)).mp z)), decide_eq_false hpt]
        rfl
theorem m_are (hF : 20000 ≤ F) (h : GF J A L) (ht : to ≤ L.length) {p : Nat} (hp : p < 2 ^ 20) : f_Model_areRecords F 39 (nI p) (nI to) (YW J A s Q) = some (bI (recW L to to p), YW J A s Q) :=
  m_are_l h ht F to p (by have := h.2.2.2.1; omega) (by omega) hp
def rcI (r : Option (Nat × Nat)) (least : Nat) : Int32 := match r with
  | none => -1
  | some (pl, len) => if len < least then -1 else nI pl
theorem m_rec_l (h : GF J A L) (ht : to ≤ L.length) {least : Nat} (hl : least < 2 ^ 20) : ∀ (m q p : Nat), to - p < m → to - p ≤ q → p < 2 ^ 20 → recW L to q p = true → l_Model_recordIn_3 F m 39 (nI to) (nI least) (nI p) (YW J A s Q) = some (rcI (recF L to q p) least, YW J A s Q) := by
  have h3 := h.2.2.2.1
  intro m
  induction m with
  | zero => intro q p h; omega
  | succ m ih =>
    intro q p h1 h2 hp hw
    show b_Model_recordIn_3 F (l_Model_recordIn_3 F m) 39 (nI to) (nI least) (nI p) _ = _
    unfold b_Model_recordIn_3
    by_cases hc : p + 4 ≤ to
    · obtain ⟨q, rfl⟩ : ∃ q', q = q' + 1 := ⟨q - 1, by omega⟩
      have h16 := nvL_16 (p := p + 2) h.2.2.2.2
      have h17 := nvL_16 (p := p) h.2.2.2.2
      have e : recW L to (q + 1) p = recW L to q (p + 4 + nvL L (p + 2) 2) := by
        show (if p + 4 ≤ to then _ else _) = _
        rw [if_pos hc]
      have e2 : recF L to (q + 1) p = if nvL L p 2 = 1 then some (p + 4, nvL L (p + 2) 2) else recF L to q (p + 4 + nvL L (p + 2) 2) := by
        show (if p + 4 ≤ to then _ else _) = _
        rw [if_pos hc]
      rw [e] at hw
      rw [e2, if_neg (nI_ge (by omega) (by omega))]
      simp only [wo_M, Option.bind_some]
      rw [M_two h (by omega), Option.bind_some]
      simp only []
      by_cases hk : nvL L p 2 = 1
      · rw [if_pos (by rw [hk]; rfl), if_pos hk]
        simp only [wo_M, Option.bind_some]
        rw [show (2 : Int32) = nI 2 from rfl, nI_add, M_two h (by omega), Option.bind_some]
        simp only []
        show _ = some (if nvL L (p + 2) 2 < least then -1 else nI (p + 4), _)
        by_cases hlt : nvL L (p + 2) 2 < least
        · rw [if_pos (nI_lt hlt (by omega)), if_pos hlt]
        · rw [if_neg (nI_nlt (by omega) (by omega)), if_neg hlt, show (4 : Int32) = nI 4 from rfl, nI_add]
      · rw [if_neg (show ¬ nI (nvL L p 2) = 1 from fun z => hk ((nI_eq (b := 1) (by omega) (by omega)).mp z)), if_neg hk]
        simp only [wo_M, Option.bind_some]
        rw [show (2 : Int32) = nI 2 from rfl, nI_add, M_two h (by omega), Option.bind_some]
        simp only []
        rw [show (4 : Int32) = nI 4 from rfl, nI_add, nI_add, ih q _ (by omega) (by omega) (by omega) hw]
    · have e : recW L to q p = decide (p = to) := by
        cases q with
        | zero => rfl
        | succ q =>
          show (if p + 4 ≤ to then _ else _) = _
          rw [if_neg hc]
      have e2 : recF L to q p = none := by
        cases q with
        | zero => rfl
        | succ q =>
          show (if p + 4 ≤ to then _ else _) = _
          rw [if_neg hc]
      rw [e] at hw
      have hpt : p = to := of_decide_eq_true hw
      rw [e2, if_pos (nI_le (by omega) (by omega))]
      rfl
theorem m_rec (hF : 20000 ≤ F) (h : GF J A L) (ht : to ≤ L.length) {least p : Nat} (hl : least < 2 ^ 20) (hp : p < 2 ^ 20) (hw : recW L to to p = true) : f_Model_recordIn F 39 (nI p) (nI to) (nI least) (YW J A s Q) = some (rcI (recF L to to p) least, YW J A s Q) :=
  m_rec_l h ht hl F to p (by have := h.2.2.2.1; omega) (by omega) hp hw
end Rc
