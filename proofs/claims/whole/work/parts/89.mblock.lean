/-! Blocks, by the reference. -/
section Lx
variable {F : Nat} {w : zW}
theorem m_xL {sy : Nat} (h1 : 257 ≤ sy) (h2 : sy ≤ 285) : f_Model_extraLength F (nI sy) w = some (nI (xL sy), w) := by
  unfold f_Model_extraLength b_Model_extraLength_0 b_Model_extraLength_14 xL
  by_cases c1 : sy < 265
  · rw [if_pos (show nI sy < (265 : Int32) from nI_lt (b := 265) c1 (by decide)), if_pos (Or.inl c1)]; rfl
  · rw [if_neg (show ¬ nI sy < (265 : Int32) from nI_nlt (b := 265) (by omega) (by omega))]
    by_cases c2 : sy = 285
    · rw [if_pos (by rw [c2]; rfl), if_pos (Or.inr c2)]; rfl
    · rw [if_neg (show ¬ nI sy = (285 : Int32) from fun q => c2 ((nI_eq (b := 285) (by omega) (by decide)).mp q)), if_neg (by omega), show (265 : Int32) = nI 265 from rfl, pk_sub (by omega), show (4 : Int32) = nI 4 from rfl, pk_div (by omega) (by decide) (by decide), nI_1]
theorem m_lL {sy : Nat} (h1 : 257 ≤ sy) (h2 : sy ≤ 285) : f_Model_leastLength F (nI sy) w = some (nI (lL sy), w) := by
  unfold f_Model_leastLength b_Model_leastLength_0
  rw [m_xL h1 h2]
  by_cases c1 : sy < 265
  · have e : lL sy = sy - 254 := by unfold lL; rw [if_pos c1]
    rw [if_neg (show ¬ (265 : Int32) ≤ nI sy from nI_ge (b := 265) c1 (by decide)), show (254 : Int32) = nI 254 from rfl, pk_sub (by omega), e]
  · rw [if_pos (show (265 : Int32) ≤ nI sy from nI_le (a := 265) (by omega) (by omega))]
    by_cases c2 : sy = 285
    · rw [if_pos (by rw [c2]; rfl)]
      subst c2
      rfl
    · have e : lL sy = (4 + (sy - 265) % 4) * 2 ^ xL sy + 3 := by unfold lL; rw [if_neg c1, if_neg c2]
      have hx := xL_le h2
      have h5 : 2 ^ xL sy ≤ 2 ^ 5 := Nat.pow_le_pow_right (by decide) hx
      rw [if_neg (show ¬ nI sy = (285 : Int32) from fun q => c2 ((nI_eq (b := 285) (by omega) (by decide)).mp q)), Option.bind_some, e]
      simp only []
      rw [show (265 : Int32) = nI 265 from rfl, pk_sub (by omega), show (4 : Int32) = nI 4 from rfl, nI_mod (by omega) (by decide) (by decide), nI_add, show (1 : Int32) = nI 1 from rfl, shlD (by omega) (by omega), pk_mul, show (3 : Int32) = nI 3 from rfl, nI_add, Nat.one_mul]
theorem m_xD {t : Nat} (h : t ≤ 29) : f_Model_extraDistance F (nI t) w = some (nI (xD t), w) := by
  unfold f_Model_extraDistance b_Model_extraDistance_0 xD
  by_cases c1 : t < 4
  · rw [if_neg (show ¬ (4 : Int32) ≤ nI t from nI_ge (b := 4) c1 (by decide)), if_pos c1]; rfl
  · rw [if_pos (show (4 : Int32) ≤ nI t from nI_le (a := 4) (by omega) (by omega)), if_neg c1, show (2 : Int32) = nI 2 from rfl, pk_sub (by omega), pk_div (by omega) (by decide) (by decide)]
theorem m_lD {t : Nat} (h : t ≤ 29) : f_Model_leastDistance F (nI t) w = some (nI (lD t), w) := by
  unfold f_Model_leastDistance b_Model_leastDistance_0
  rw [m_xD h]
  by_cases c1 : t < 4
  · have e : lD t = t + 1 := by unfold lD; rw [if_pos c1]
    rw [if_neg (show ¬ (4 : Int32) ≤ nI t from nI_ge (b := 4) c1 (by decide)), nI_1, e]
  · have e : lD t = (2 + t % 2) * 2 ^ xD t + 1 := by unfold lD; rw [if_neg c1]
    have hx := xD_le h
    have h5 : 2 ^ xD t ≤ 2 ^ 13 := Nat.pow_le_pow_right (by decide) hx
    rw [if_pos (show (4 : Int32) ≤ nI t from nI_le (a := 4) (by omega) (by omega)), Option.bind_some, e]
    simp only []
    rw [show (2 : Int32) = nI 2 from rfl, nI_mod (by omega) (by decide) (by decide), nI_add, show (1 : Int32) = nI 1 from rfl, shlD (by omega) (by omega), pk_mul, nI_add, Nat.one_mul]
end Lx
/-- the reference's code at fr is that of ls -/
def WDt (A : yA) (fr : Nat) (ls : List Nat) : Prop := hL44 A fr ls ∧ ∀ j, j < ls.length → 0 < ls.getD j 0 → (A 45)[fr + j]? = some (nI (kW ls j))
def mw (J : yJ) (A : yA) (s : Nat) (Q : zW) (p : Nat) (O : List Int32) : zW := mu (pj J 39 6 (nI O.length)) (ud A 42 (wr (A 42) 0 O)) s Q p
section Mk
variable {J : yJ} {A : yA} {s : Nat} {Q : zW} {F p : Nat} {C O : List Int32}
theorem mw_S (hS : Sh A) (hO : O.length ≤ 400) : Sh (ud A 42 (wr (A 42) 0 O)) := by
  have h8 : (A 42).length = 400 := hS 42
  exact hS.ud (wr_len (by omega))
theorem mw_b (hS : Sh A) (hO : O.length ≤ 400) : mfr J A (pj J 39 6 (nI O.length)) (ud A 42 (wr (A 42) 0 O)) := by
  have h8 : (A 42).length = 400 := hS 42
  exact ((mfr.rf hS).pj (Or.inl rfl)).ud (Or.inl rfl) (wr_len (by omega))
theorem mw_src (hS : Sh A) (hO : O.length ≤ 400) (h : Srm J A C) : Srm (pj J 39 6 (nI O.length)) (ud A 42 (wr (A 42) 0 O)) C := h.fr (mw_b hS hO)
theorem mw_bad (hS : Sh A) (hO : O.length ≤ 400) {w : zW} (h : mB (pj J 39 6 (nI O.length)) (ud A 42 (wr (A 42) 0 O)) s Q w) : mB J A s Q w := h.tr (mw_b hS hO)
theorem mw_o {α : Type} (X : Option α) : ((zobj (mw J A s Q p O) 39 9).bind fun _ => X) = X := rfl
theorem mw_g : getI (mw J A s Q p O) 39 9 11 = some 0 ∧ getI (mw J A s Q p O) 39 9 10 = some (nI p) ∧ getI (mw J A s Q p O) 39 9 6 = some (nI O.length) ∧ getR (mw J A s Q p O) 39 9 7 = some 42 := by
  refine ⟨rfl, rfl, rfl, rfl⟩
theorem mw_p0 : putI (mw J A s Q p O) 39 9 11 0 = some (mw J A s Q p O) := by
  unfold mw mu
  simp only [wp_M]
  rw [pj_pj]
theorem mw_p1 (hS : Sh A) (hO : O.length ≤ 400) : ∃ J', putI (mw J A s Q p O) 39 9 11 1 = some (YW J' (ud A 42 (wr (A 42) 0 O)) s Q) ∧ J' 39 11 = 1 ∧ mfr J A J' (ud A 42 (wr (A 42) 0 O)) := by
  unfold mw mu
  simp only [wp_M]
  exact ⟨_, rfl, pj_s, (((mw_b hS hO).pj (Or.inr (Or.inl rfl))).pj (Or.inr (Or.inr rfl))).pj (Or.inr (Or.inr rfl))⟩
theorem mw_p1B (hS : Sh A) (hO : O.length ≤ 400) : ∃ w', putI (mw J A s Q p O) 39 9 11 1 = some w' ∧ mB J A s Q w' := by
  obtain ⟨J', e, h1, h2⟩ := mw_p1 (J := J) (s := s) (Q := Q) (p := p) hS hO
  exact ⟨_, e, J', _, rfl, h2, h1⟩
theorem mw_bits (hF : 20000 ≤ F) (h : Srm J A C) (hS : Sh A) (hO : O.length ≤ 400) {n : Nat} (hn : n ≤ 16) (hp : p ≤ 8 * C.length) : (∀ v q, tkS C p n = some (v, q) → f_Model_bits F 39 (nI n) (mw J A s Q p O) = some (nI v, mw J A s Q q O)) ∧ (tkS C p n = none → ∃ v' w', f_Model_bits F 39 (nI n) (mw J A s Q p O) = some (v', w') ∧ mB J A s Q w') := by
  have := m_bits (F := F) (s := s) (Q := Q) hF (mw_src hS hO h) (mw_S hS hO) hn hp
  refine ⟨this.1, fun e => ?_⟩
  obtain ⟨v', w', e1, e2⟩ := this.2 e
  exact ⟨v', w', e1, mw_bad hS hO e2⟩
theorem WDt.ud {fr : Nat} {ls : List Nat} (h : WDt A fr ls) {xs : List Int32} : WDt (ud A 42 xs) fr ls := by
  unfold WDt hL44
  rw [ud_n (by decide), ud_n (by decide)]
  exact h
theorem mw_sym {ls : List Nat} {fr : Nat} (hF : 20000 ≤ F) (h : Srm J A C) (hS : Sh A) (hO : O.length ≤ 400) (hW : WDt A fr ls) (h15 : ∀ l ∈ ls, l ≤ 15) (hfr : fr + ls.length ≤ 339) (hp : p ≤ 8 * C.length) : (∀ k q, symS ls C p = some (k, q) → f_Model_symbol F 39 (nI fr) (nI ls.length) (mw J A s Q p O) = some (nI k, mw J A s Q q O)) ∧ (symS ls C p = none → ∃ w', f_Model_symbol F 39 (nI fr) (nI ls.length) (mw J A s Q p O) = some (0, w') ∧ mB J A s Q w') := by
  have hW2 := hW.ud (xs := wr (A 42) 0 O)
  have := m_symbol (F := F) (s := s) (Q := Q) hF (mw_src hS hO h) (mw_S hS hO) hW2.1 h15 hW2.2 hfr hp
  refine ⟨this.1, fun e => ?_⟩
  obtain ⟨w', e1, e2⟩ := this.2 e
  exact ⟨w', e1, mw_bad hS hO e2⟩
theorem mw_out (hS : Sh A) (hO : O.length < 200) (b : Int32) : f_Model_out F 39 b (mw J A s Q p O) = some ((), mw J A s Q p (O ++ [b])) := by
  have h8 : (A 42).length = 400 := hS 42
  unfold f_Model_out b_Model_out_0 b_Model_out_23
  simp only [mw_g, Option.bind_some]
  rw [if_pos trivial, if_neg (show ¬ nI O.length = (200 : Int32) from fun q => by have := (nI_eq (b := 200) (by omega) (by decide)).mp q; omega), if_pos (Or.inl trivial), mw_p0, Option.bind_some]
  simp only [mw_g, Option.bind_some]
  rw [if_pos trivial]
  unfold mw mu
  rw [as_ (by decide) (by rw [ud_s, wr_len (by omega)]; omega) (by rw [ud_s, wr_len (by omega)]; omega), Option.bind_some]
  simp only [wg_M, wp_M, Option.bind_some]
  rw [ud_s, ud_ud, wr_set (by rw [wr_len (by omega)]; omega), pj_k (by decide), pj_k (by decide), pj_s, nI_1]
  have := wr_wr (xs := A 42) (n := 0) (X := O) (Y := [b]) (by rw [List.length_singleton]; omega)
  rw [Nat.zero_add] at this
  rw [this, List.length_append, List.length_singleton, pj_comm (o := 39) (k := 11) (p := 39) (q := 6) (Or.inr (by decide)), pj_comm (o := 39) (k := 10) (p := 39) (q := 6) (Or.inr (by decide)), pj_pj]
theorem out_bad {b : Int32} (h : J 39 11 = 1) : f_Model_out F 39 b (YW J A s Q) = some ((), YW J A s Q) := by
  unfold f_Model_out b_Model_out_0 b_Model_out_18 b_Model_out_23
  simp only [wg_M, wp_M, Option.bind_some]
  rw [h, if_neg (by decide), if_pos (Or.inr trivial), pj_s, if_neg (by decide), pj_id h]
theorem mw_outF (hS : Sh A) (hO : O.length = 200) (b : Int32) : ∃ w', f_Model_out F 39 b (mw J A s Q p O) = some ((), w') ∧ mB J A s Q w' := by
  obtain ⟨J', e, h1, h2⟩ := mw_p1 (J := J) (s := s) (Q := Q) (p := p) (O := O) hS (by omega)
  unfold f_Model_out b_Model_out_0 b_Model_out_18 b_Model_out_23
  simp only [mw_g, Option.bind_some]
  rw [if_pos trivial, if_pos (by rw [hO]; rfl), if_pos (Or.inr trivial), e, Option.bind_some]
  simp only [wg_M, Option.bind_some]
  rw [h1, if_neg (by decide)]
  exact ⟨_, rfl, J', _, rfl, h2, h1⟩
/-! a repeat, in a bad state -/
theorem rp_128b (hF : 20000 ≤ F) (h : J 39 11 = 1) (n d : Int32) : b_Model_repeat_128 F 39 n d 39 1 (YW J A s Q) = some ((), YW J A s Q) := by
  unfold b_Model_repeat_128
  rw [if_pos (Or.inr rfl)]
  simp only [wp_M, Option.bind_some]
  rw [pj_id h]
  obtain ⟨G, rfl⟩ : ∃ q, F = q + 1 := ⟨F - 1, by omega⟩
  show b_Model_repeat_134 (G + 1) (l_Model_repeat_134 (G + 1) G) 39 n d 0 _ = _
  unfold b_Model_repeat_134
  simp only [wg_M, Option.bind_some]
  rw [h, if_neg (show ¬ (1 : Int32) = 0 by decide)]
  exact ite_self _
theorem rp_104b (hF : 20000 ≤ F) (h : J 39 11 = 1) (n d : Int32) : b_Model_repeat_104 F 39 n d (YW J A s Q) = some ((), YW J A s Q) := by
  unfold b_Model_repeat_104 b_Model_repeat_123
  simp only [wg_M, Option.bind_some]
  rw [h, if_neg (show ¬ (1 : Int32) = 0 by decide), rp_128b hF h]
theorem rp_77b (hF : 20000 ≤ F) (h : J 39 11 = 1) (n t : Int32) : b_Model_repeat_77 F 39 n t 39 1 (YW J A s Q) = some ((), YW J A s Q) := by
  unfold b_Model_repeat_77
  rw [if_pos (Or.inr rfl)]
  simp only [wp_M, wg_M, Option.bind_some]
  rw [pj_s, if_neg (show ¬ (1 : Int32) = 0 by decide), pj_id h, rp_104b hF h]
theorem rp_47b (hF : 20000 ≤ F) (h : J 39 11 = 1) (n : Int32) : b_Model_repeat_47 F 39 n (YW J A s Q) = some ((), YW J A s Q) := by
  unfold b_Model_repeat_47 b_Model_repeat_72
  simp only [wo_M, Option.bind_some, m_sym_bad hF h, wg_M]
  rw [h, if_neg (show ¬ (1 : Int32) = 0 by decide), rp_77b hF h]
theorem rp_B {X : zW → Option (Unit × zW)} {w : zW} (h : mB J A s Q w) (hX : ∀ (J' : yJ) (A' : yA), J' 39 11 = 1 → X (YW J' A' s Q) = some ((), YW J' A' s Q)) : ∃ w', X w = some ((), w') ∧ mB J A s Q w' := by
  obtain ⟨J', A', rfl, h1, h2⟩ := h
  exact ⟨_, hX J' A' h2, J', A', rfl, h1, h2⟩
theorem m_rep_l (hS : Sh A) {n d : Nat} (hd : 0 < d) (hdO : d ≤ O.length) (hO : O.length ≤ 200) (hn : n < 2 ^ 20) : ∀ (m k : Nat), k ≤ n → 201 - (O.length + k) < m → O.length + k ≤ 200 → (O.length + n ≤ 200 → l_Model_repeat_134 F m 39 (nI n) (nI d) (nI k) (mw J A s Q p (rpt O d k)) = some ((), mw J A s Q p (rpt O d n))) ∧ (¬ O.length + n ≤ 200 → ∃ w', l_Model_repeat_134 F m 39 (nI n) (nI d) (nI k) (mw J A s Q p (rpt O d k)) = some ((), w') ∧ mB J A s Q w') := by
  have h8 : (A 42).length = 400 := hS 42
  intro m
  induction m with
  | zero => intro k _ h; omega
  | succ m ih =>
    intro k hk hm hk2
    have ef : l_Model_repeat_134 F (m + 1) 39 (nI n) (nI d) (nI k) (mw J A s Q p (rpt O d k)) = b_Model_repeat_134 F (l_Model_repeat_134 F m) 39 (nI n) (nI d) (nI k) (mw J A s Q p (rpt O d k)) := rfl
    rw [ef]
    unfold b_Model_repeat_134
    have hlen := rpt_len O d k
    by_cases hlt : k < n
    · have hg : aget (mw J A s Q p (rpt O d k)) 42 (nI (O.length + k - d)) = some ((rpt O d k).getD (O.length + k - d) 0) := by
        refine ag_ (by decide) (by omega) ?_
        rw [ud_s, take_get (wr0_take (by omega)) (by omega), List.getD_eq_getElem?_getD, List.getElem?_eq_getElem (by omega)]
        rfl
      rw [if_neg (nI_ge hlt (by omega))]
      simp only [mw_g, Option.bind_some]
      rw [if_pos trivial, hlen, pk_sub (by omega), hg, Option.bind_some, mw_o]
      by_cases hlim : O.length + k < 200
      · rw [mw_out hS (by omega), Option.bind_some, nI_1]
        exact ih (k + 1) (by omega) (by omega) (by omega)
      · refine ⟨fun q => by omega, fun _ => ?_⟩
        obtain ⟨w', e, hb⟩ := mw_outF (F := F) (J := J) (A := A) (s := s) (Q := Q) (p := p) (O := rpt O d k) hS (by omega) ((rpt O d k).getD (O.length + k - d) 0)
        rw [e, Option.bind_some]
        refine rp_B (X := fun w => l_Model_repeat_134 F m 39 (nI n) (nI d) (nI k + 1) w) hb ?_
        intro J' A' h'
        obtain ⟨m, rfl⟩ : ∃ q, m = q + 1 := ⟨m - 1, by omega⟩
        show b_Model_repeat_134 F (l_Model_repeat_134 F m) 39 (nI n) (nI d) (nI k + 1) _ = _
        unfold b_Model_repeat_134
        simp only [wg_M, Option.bind_some]
        rw [h', if_neg (show ¬ (1 : Int32) = 0 by decide)]
        exact ite_self _
    · have ek : k = n := by omega
      subst ek
      rw [if_pos (nI_le (by omega) (by omega))]
      exact ⟨fun _ => rfl, fun q => by omega⟩
/-- repeat -/
theorem m_repeat {l2 : List Nat} (hF : 20000 ≤ F) (h : Srm J A C) (hS : Sh A) (hW : WDt A 288 l2) (h15 : ∀ l ∈ l2, l ≤ 15) (hl2 : l2.length = 32) {sy : Nat} (h1 : 257 ≤ sy) (h2 : sy < 288) (hp : p ≤ 8 * C.length) (hO : O.length ≤ 200) : (∀ p' O', repS l2 C sy p O = some (p', O') → f_Model_repeat F 39 (nI sy) (mw J A s Q p O) = some ((), mw J A s Q p' O')) ∧ (repS l2 C sy p O = none → ∃ w', f_Model_repeat F 39 (nI sy) (mw J A s Q p O) = some ((), w') ∧ mB J A s Q w') := by
  unfold f_Model_repeat b_Model_repeat_0 repS
  simp only [mw_g, Option.bind_some]
  rw [if_pos trivial]
  by_cases c1 : sy ≤ 285
  · rw [if_pos (show nI sy ≤ (285 : Int32) from nI_le (b := 285) c1 (by decide)), if_pos c1]
    unfold b_Model_repeat_20
    rw [if_pos (Or.inl rfl), mw_p0, Option.bind_some]
    simp only [mw_g, Option.bind_some]
    rw [if_pos trivial, m_lL h1 c1, Option.bind_some]
    simp only []
    rw [m_xL h1 c1, Option.bind_some]
    simp only [mw_o]
    have hx := xL_le c1
    have hlL := lL_le c1
    have hb := mw_bits (F := F) (s := s) (Q := Q) hF h hS (show O.length ≤ 400 by omega) (show xL sy ≤ 16 by omega) hp
    cases e1 : tkS C p (xL sy) with
    | none =>
      obtain ⟨v', w', f1, f2⟩ := hb.2 e1
      refine ⟨fun p' O' e => (by cases e), fun _ => ?_⟩
      rw [f1, Option.bind_some]
      exact rp_B (X := fun w => b_Model_repeat_47 F 39 (nI (lL sy) + v') w) f2 (fun J' A' h' => rp_47b hF h' _)
    | some x1 =>
      obtain ⟨v, p1⟩ := x1
      have t1 := tkS_lt e1
      have hx5 : 2 ^ xL sy ≤ 2 ^ 5 := Nat.pow_le_pow_right (by decide) hx
      rw [hb.1 v p1 e1, Option.bind_some]
      simp only []
      rw [nI_add]
      unfold b_Model_repeat_47
      rw [mw_o]
      have hsy := mw_sym (F := F) (s := s) (Q := Q) hF h hS (show O.length ≤ 400 by omega) hW h15 (by omega) t1.2.2
      rw [hl2, show (nI 288 : Int32) = 288 from rfl, show (nI 32 : Int32) = 32 from rfl] at hsy
      cases e2 : symS l2 C p1 with
      | none =>
        obtain ⟨w', f1, f2⟩ := hsy.2 e2
        refine ⟨fun p' O' e => (by cases e), fun _ => ?_⟩
        rw [f1, Option.bind_some]
        obtain ⟨J', A', rfl, g1, g2⟩ := f2
        unfold b_Model_repeat_72
        simp only [wg_M, Option.bind_some]
        rw [g2, if_neg (show ¬ (1 : Int32) = 0 by decide), rp_77b hF g2]
        exact ⟨_, rfl, J', A', rfl, g1, g2⟩
      | some x2 =>
        obtain ⟨t, p2⟩ := x2
        have t2 := symS_lt e2
        rw [hsy.1 t p2 e2, Option.bind_some]
        simp only [mw_g, Option.bind_some]
        rw [if_pos trivial]
        by_cases c2 : t ≤ 29
        · rw [if_pos (show nI t ≤ (29 : Int32) from nI_le (b := 29) c2 (by decide)), if_pos c2]
          unfold b_Model_repeat_77
          rw [if_pos (Or.inl rfl), mw_p0, Option.bind_some]
          simp only [mw_g, Option.bind_some]
          rw [if_pos trivial, m_lD c2, Option.bind_some]
          simp only []
          rw [m_xD c2, Option.bind_some]
          simp only [mw_o]
          have hxd := xD_le c2
          have hlD := lD_le c2
          have hb2 := mw_bits (F := F) (s := s) (Q := Q) hF h hS (show O.length ≤ 400 by omega) (show xD t ≤ 16 by omega) t2.2.2
          cases e3 : tkS C p2 (xD t) with
          | none =>
            obtain ⟨v', w', f1, f2⟩ := hb2.2 e3
            refine ⟨fun p' O' e => (by cases e), fun _ => ?_⟩
            rw [f1, Option.bind_some]
            exact rp_B (X := fun w => b_Model_repeat_104 F 39 (nI (lL sy + v)) (nI (lD t) + v') w) f2 (fun J' A' h' => rp_104b hF h' _ _)
          | some x3 =>
            obtain ⟨u, p3⟩ := x3
            have t3 := tkS_lt e3
            have hx13 : 2 ^ xD t ≤ 2 ^ 13 := Nat.pow_le_pow_right (by decide) hxd
            have hlp := lD_pos t
            rw [hb2.1 u p3 e3, Option.bind_some]
            simp only []
            rw [nI_add]
            unfold b_Model_repeat_104
            simp only [mw_g, Option.bind_some]
            rw [if_pos trivial]
            by_cases c3 : lD t + u ≤ O.length
            · rw [if_pos (nI_le c3 (by omega))]
              unfold b_Model_repeat_128
              rw [if_pos (Or.inl rfl), mw_p0, Option.bind_some]
              have hl := m_rep_l (F := F) (J := J) (s := s) (Q := Q) (p := p3) (n := lL sy + v) (d := lD t + u) hS (by omega) c3 hO (by omega) F 0 (Nat.zero_le _) (by omega) (by omega)
              by_cases c4 : O.length + (lL sy + v) ≤ 200
              · rw [if_pos ⟨c3, c4⟩]
                exact ⟨fun p' O' e => (by cases e; exact hl.1 c4), fun e => (by cases e)⟩
              · rw [if_neg (fun q => c4 q.2)]
                exact ⟨fun p' O' e => (by cases e), fun _ => hl.2 c4⟩
            · rw [if_neg (nI_ge (by omega) (by omega)), if_neg (fun q => c3 q.1)]
              refine ⟨fun p' O' e => (by cases e), fun _ => ?_⟩
              unfold b_Model_repeat_123 b_Model_repeat_128
              obtain ⟨J', q1, q2, q3⟩ := mw_p1 (J := J) (s := s) (Q := Q) (p := p3) (O := O) hS (by omega)
              rw [if_pos (Or.inr rfl), q1, Option.bind_some]
              have := rp_128b (F := F) (A := ud A 42 (wr (A 42) 0 O)) (s := s) (Q := Q) hF q2 (nI (lL sy + v)) (nI (lD t + u))
              unfold b_Model_repeat_128 at this
              rw [if_pos (Or.inr rfl)] at this
              simp only [wp_M, Option.bind_some] at this
              rw [pj_id q2] at this
              exact ⟨_, this, J', _, rfl, q3, q2⟩
        · rw [if_neg (show ¬ nI t ≤ (29 : Int32) from nI_ge (a := 29) (by omega) (by omega)), if_neg c2]
          refine ⟨fun p' O' e => (by cases e), fun _ => ?_⟩
          unfold b_Model_repeat_72 b_Model_repeat_77
          obtain ⟨J', q1, q2, q3⟩ := mw_p1 (J := J) (s := s) (Q := Q) (p := p2) (O := O) hS (by omega)
          rw [if_pos (Or.inr rfl), q1, Option.bind_some]
          simp only [wg_M, Option.bind_some]
          rw [q2, if_neg (show ¬ (1 : Int32) = 0 by decide), rp_104b hF q2]
          exact ⟨_, rfl, J', _, rfl, q3, q2⟩
  · rw [if_neg (show ¬ nI sy ≤ (285 : Int32) from nI_ge (a := 285) (by omega) (by omega)), if_neg c1]
    refine ⟨fun p' O' e => (by cases e), fun _ => ?_⟩
    unfold b_Model_repeat_15 b_Model_repeat_20
    obtain ⟨J', q1, q2, q3⟩ := mw_p1 (J := J) (s := s) (Q := Q) (p := p) (O := O) hS (by omega)
    rw [if_pos (Or.inr rfl), q1, Option.bind_some]
    simp only [wg_M, Option.bind_some]
    rw [q2, if_neg (show ¬ (1 : Int32) = 0 by decide), rp_47b hF q2]
    exact ⟨_, rfl, J', _, rfl, q3, q2⟩
theorem cod_bad (hm : 0 < F) {m : Nat} (hmm : 0 < m) (h : J 39 11 = 1) (x : Int32) : l_Model_codedBlock_9 F m 39 x (YW J A s Q) = some ((), YW J A s Q) := by
  obtain ⟨m, rfl⟩ : ∃ q, m = q + 1 := ⟨m - 1, by omega⟩
  show b_Model_codedBlock_9 F (l_Model_codedBlock_9 F m) 39 x _ = _
  unfold b_Model_codedBlock_9
  simp only [wg_M, Option.bind_some]
  rw [h, if_neg (show ¬ (1 : Int32) = 0 by decide)]
theorem m_cod_l {l1 l2 : List Nat} (hF : 20000 ≤ F) (h : Srm J A C) (hS : Sh A) (hW1 : WDt A 0 l1) (hW2 : WDt A 288 l2) (h15a : ∀ l ∈ l1, l ≤ 15) (h15b : ∀ l ∈ l2, l ≤ 15) (hl1 : l1.length = 288) (hl2 : l2.length = 32) : ∀ (m q p : Nat) (O : List Int32), 8 * C.length - p < m → 8 * C.length + 1 - p < q → p ≤ 8 * C.length → O.length ≤ 200 → (∀ p' O', codS l1 l2 C m p O = some (p', O') → ((f_Model_symbol F 39 0 288 (mw J A s Q p O)).bind fun r => l_Model_codedBlock_9 F q 39 r.1 r.2) = some ((), mw J A s Q p' O')) ∧ (codS l1 l2 C m p O = none → ∃ w', ((f_Model_symbol F 39 0 288 (mw J A s Q p O)).bind fun r => l_Model_codedBlock_9 F q 39 r.1 r.2) = some ((), w') ∧ mB J A s Q w') := by
  intro m
  induction m with
  | zero => intro q p O h; omega
  | succ m ih =>
    intro q p O hm hq hp hO
    obtain ⟨q, rfl⟩ : ∃ q', q = q' + 1 := ⟨q - 1, by omega⟩
    have hsy := mw_sym (F := F) (s := s) (Q := Q) hF h hS (show O.length ≤ 400 by omega) hW1 h15a (by omega) hp
    rw [hl1, show (nI 288 : Int32) = 288 from rfl, show (nI 0 : Int32) = 0 from rfl] at hsy
    unfold codS
    cases es : symS l1 C p with
    | none =>
      obtain ⟨w', f1, f2⟩ := hsy.2 es
      refine ⟨fun p' O' e => (by cases e), fun _ => ?_⟩
      rw [f1, Option.bind_some]
      exact rp_B (X := fun w => l_Model_codedBlock_9 F (q + 1) 39 0 w) f2 (fun J' A' h' => cod_bad (by omega) (by omega) h' _)
    | some x =>
      obtain ⟨sy, p1⟩ := x
      have hb := symS_lt es
      rw [hsy.1 sy p1 es, Option.bind_some]
      have ef : l_Model_codedBlock_9 F (q + 1) 39 (nI sy) (mw J A s Q p1 O) = b_Model_codedBlock_9 F (l_Model_codedBlock_9 F q) 39 (nI sy) (mw J A s Q p1 O) := rfl
      simp only []
      rw [ef]
      unfold b_Model_codedBlock_9
      simp only [mw_g, Option.bind_some]
      rw [if_pos trivial]
      have b43 : ∀ J' A', J' 39 11 = 1 → b_Model_codedBlock_43 F (l_Model_codedBlock_9 F q) 39 (YW J' A' s Q) = some ((), YW J' A' s Q) := by
        intro J' A' h'
        unfold b_Model_codedBlock_43 b_Model_codedBlock_64
        simp only [wg_M, Option.bind_some]
        rw [h', if_neg (show ¬ (1 : Int32) = 0 by decide)]
        exact cod_bad (by omega) (by omega) h' _
      have g43 : ∀ (p2 : Nat) (O2 : List Int32), b_Model_codedBlock_43 F (l_Model_codedBlock_9 F q) 39 (mw J A s Q p2 O2) = ((f_Model_symbol F 39 0 288 (mw J A s Q p2 O2)).bind fun r => l_Model_codedBlock_9 F q 39 r.1 r.2) := by
        intro p2 O2
        unfold b_Model_codedBlock_43 b_Model_codedBlock_64
        simp only [mw_g, Option.bind_some]
        rw [if_pos trivial, mw_o]
      by_cases c1 : sy = 256
      · subst c1
        rw [if_pos (show nI 256 = (256 : Int32) from rfl), if_pos rfl]
        exact ⟨fun p' O' e => (by cases e; rfl), fun e => (by cases e)⟩
      · rw [if_neg (show ¬ nI sy = (256 : Int32) from fun z => c1 ((nI_eq (b := 256) (by omega) (by decide)).mp z)), if_neg c1]
        by_cases c2 : sy < 256
        · rw [if_neg (show ¬ (256 : Int32) ≤ nI sy from nI_ge (b := 256) c2 (by decide)), if_pos c2, mw_o]
          by_cases c3 : O.length < 200
          · rw [if_pos c3, mw_out hS c3, Option.bind_some]
            simp only []
            rw [g43]
            exact ih q p1 _ (by omega) (by omega) hb.2.2 (by rw [List.length_append, List.length_singleton]; omega)
          · rw [if_neg c3]
            refine ⟨fun p' O' e => (by cases e), fun _ => ?_⟩
            obtain ⟨w', e1, e2⟩ := mw_outF (F := F) (J := J) (A := A) (s := s) (Q := Q) (p := p1) (O := O) hS (by omega) (nI sy)
            rw [e1, Option.bind_some]
            exact rp_B (X := fun w => b_Model_codedBlock_43 F (l_Model_codedBlock_9 F q) 39 w) e2 b43
        · rw [if_pos (show (256 : Int32) ≤ nI sy from nI_le (a := 256) (by omega) (by omega)), if_neg c2, mw_o]
          have hr := m_repeat (F := F) (s := s) (Q := Q) hF h hS hW2 h15b hl2 (sy := sy) (by omega) (by omega) hb.2.2 hO
          cases e1 : repS l2 C sy p1 O with
          | none =>
            obtain ⟨w', f1, f2⟩ := hr.2 e1
            refine ⟨fun p' O' e => (by cases e), fun _ => ?_⟩
            rw [f1, Option.bind_some]
            exact rp_B (X := fun w => b_Model_codedBlock_43 F (l_Model_codedBlock_9 F q) 39 w) f2 b43
          | some x2 =>
            obtain ⟨p2, O2⟩ := x2
            have t2 := repS_lt e1
            rw [hr.1 p2 O2 e1, Option.bind_some]
            simp only []
            rw [g43]
            exact ih q p2 O2 (by omega) (by omega) t2.2.1 t2.2.2.1
theorem m_coded {l1 l2 : List Nat} (hF : 20000 ≤ F) (h : Srm J A C) (hS : Sh A) (hW1 : WDt A 0 l1) (hW2 : WDt A 288 l2) (h15a : ∀ l ∈ l1, l ≤ 15) (h15b : ∀ l ∈ l2, l ≤ 15) (hl1 : l1.length = 288) (hl2 : l2.length = 32) (hp : p ≤ 8 * C.length) (hO : O.length ≤ 200) : (∀ p' O', codS l1 l2 C (8 * C.length + 1) p O = some (p', O') → f_Model_codedBlock F 39 (mw J A s Q p O) = some ((), mw J A s Q p' O')) ∧ (codS l1 l2 C (8 * C.length + 1) p O = none → ∃ w', f_Model_codedBlock F 39 (mw J A s Q p O) = some ((), w') ∧ mB J A s Q w') := by
  have h3 := h.2.2.1
  have := m_cod_l (F := F) (s := s) (Q := Q) hF h hS hW1 hW2 h15a h15b hl1 hl2 (8 * C.length + 1) F p O (by omega) (by omega) hp hO
  unfold f_Model_codedBlock b_Model_codedBlock_0
  rw [mw_o]
  exact this
theorem byte8 (hb : ∀ b ∈ C, isB b) {i : Nat} (hi : i < C.length) : bvS C (8 * i) 8 = bN (C.getD i 0) := by
  have h := (getB hb hi).1
  have e : ∀ j, j < 8 → btS C (8 * i + j) = bN (C.getD i 0) / 2 ^ j % 2 := by
    intro j hj
    unfold btS
    rw [show (8 * i + j) / 8 = i by omega, show (8 * i + j) % 8 = j by omega]
  simp only [bvS, e 0 (by decide), e 1 (by decide), e 2 (by decide), e 3 (by decide), e 4 (by decide), e 5 (by decide), e 6 (by decide), e 7 (by decide)]
  omega
theorem m_st_l (hF : 20000 ≤ F) (h : Srm J A C) (hS : Sh A) {n i0 : Nat} (hn : n < 2 ^ 20) (hi0 : i0 ≤ C.length) (hO : O.length ≤ 200) : ∀ (m k : Nat), k ≤ n → 201 - (O.length + k) < m → O.length + k ≤ 200 → i0 + k ≤ C.length → ((i0 + n ≤ C.length ∧ O.length + n ≤ 200) → l_Model_storedBlock_57 F m 39 (nI n) (nI k) (mw J A s Q (8 * (i0 + k)) (O ++ (C.drop i0).take k)) = some ((), mw J A s Q (8 * (i0 + n)) (O ++ (C.drop i0).take n))) ∧ (¬ (i0 + n ≤ C.length ∧ O.length + n ≤ 200) → ∃ w', l_Model_storedBlock_57 F m 39 (nI n) (nI k) (mw J A s Q (8 * (i0 + k)) (O ++ (C.drop i0).take k)) = some ((), w') ∧ mB J A s Q w') := by
  have h3 := h.2.2.1
  intro m
  induction m with
  | zero => intro k _ h; omega
  | succ m ih =>
    intro k hk hm hk2 hk3
    have ef : l_Model_storedBlock_57 F (m + 1) 39 (nI n) (nI k) (mw J A s Q (8 * (i0 + k)) (O ++ (C.drop i0).take k)) = b_Model_storedBlock_57 F (l_Model_storedBlock_57 F m) 39 (nI n) (nI k) (mw J A s Q (8 * (i0 + k)) (O ++ (C.drop i0).take k)) := rfl
    rw [ef]
    unfold b_Model_storedBlock_57
    have hlen : (O ++ (C.drop i0).take k).length = O.length + k := by rw [List.length_append, List.length_take, List.length_drop]; omega
    have bad57 : ∀ J' A', J' 39 11 = 1 → l_Model_storedBlock_57 F m 39 (nI n) (nI k + 1) (YW J' A' s Q) = some ((), YW J' A' s Q) := by
      intro J' A' h'
      obtain ⟨m, rfl⟩ : ∃ q, m = q + 1 := ⟨m - 1, by omega⟩
      show b_Model_storedBlock_57 F (l_Model_storedBlock_57 F m) 39 (nI n) (nI k + 1) _ = _
      unfold b_Model_storedBlock_57
      simp only [wg_M, Option.bind_some]
      rw [h', if_neg (show ¬ (1 : Int32) = 0 by decide)]
      exact ite_self _
    by_cases hlt : k < n
    · rw [if_neg (nI_ge hlt (by omega))]
      simp only [mw_g, Option.bind_some]
      rw [if_pos trivial, mw_o]
      have hb := mw_bits (F := F) (s := s) (Q := Q) (O := O ++ (C.drop i0).take k) hF h hS (by omega) (show 8 ≤ 16 by decide) (show 8 * (i0 + k) ≤ 8 * C.length by omega)
      rw [show (nI 8 : Int32) = 8 from rfl] at hb
      by_cases c1 : i0 + k < C.length
      · have et : tkS C (8 * (i0 + k)) 8 = some (bN (C.getD (i0 + k) 0), 8 * (i0 + (k + 1))) := by
          unfold tkS
          rw [if_pos (by omega), byte8 h.2.2.2 c1]
          rfl
        rw [hb.1 _ _ et, Option.bind_some]
        simp only []
        rw [mw_o]
        by_cases c2 : O.length + k < 200
        · rw [mw_out hS (by omega), Option.bind_some, nI_1]
          have eapp : O ++ (C.drop i0).take k ++ [nI (bN (C.getD (i0 + k) 0))] = O ++ (C.drop i0).take (k + 1) := by
            rw [List.append_assoc]
            congr 1
            rw [List.take_add_one, List.getElem?_drop, (getB h.2.2.2 c1).2]
            rfl
          rw [eapp]
          exact ih (k + 1) (by omega) (by omega) (by omega) (by omega)
        · refine ⟨fun q => by omega, fun _ => ?_⟩
          obtain ⟨w', e1, e2⟩ := mw_outF (F := F) (J := J) (A := A) (s := s) (Q := Q) (p := 8 * (i0 + (k + 1))) (O := O ++ (C.drop i0).take k) hS (by omega) (nI (bN (C.getD (i0 + k) 0)))
          rw [e1, Option.bind_some]
          exact rp_B (X := fun w => l_Model_storedBlock_57 F m 39 (nI n) (nI k + 1) w) e2 bad57
      · have et : tkS C (8 * (i0 + k)) 8 = none := by unfold tkS; rw [if_neg (by omega)]
        refine ⟨fun q => by omega, fun _ => ?_⟩
        obtain ⟨v', w', f1, f2⟩ := hb.2 et
        rw [f1, Option.bind_some]
        obtain ⟨J', A', rfl, g1, g2⟩ := f2
        simp only [wo_M, Option.bind_some]
        rw [out_bad g2, Option.bind_some, bad57 J' A' g2]
        exact ⟨_, rfl, J', A', rfl, g1, g2⟩
    · have ek : k = n := by omega
      subst ek
      rw [if_pos (nI_le (by omega) (by omega))]
      exact ⟨fun _ => rfl, fun q => by omega⟩
/-- storedBlock -/
theorem m_stored (hF : 20000 ≤ F) (h : Srm J A C) (hS : Sh A) (hp : p ≤ 8 * C.length) (hO : O.length ≤ 200) : (∀ p' O', stS C p O = some (p', O') → f_Model_storedBlock F 39 (mw J A s Q p O) = some ((), mw J A s Q p' O')) ∧ (stS C p O = none → ∃ w', f_Model_storedBlock F 39 (mw J A s Q p O) = some ((), w') ∧ mB J A s Q w') := by
  have h3 := h.2.2.1
  have eput : putI (mw J A s Q p O) 39 9 10 (nI ((p + 7) / 8 * 8)) = some (mw J A s Q ((p + 7) / 8 * 8) O) := by
    unfold mw mu
    simp only [wp_M]
    rw [pj_comm (o := 39) (k := 11) (p := 39) (q := 10) (Or.inr (by decide)), pj_pj]
  have n16 : ∀ pp, pp ≤ 8 * C.length → (∀ v q, tkS C pp 16 = some (v, q) → f_Model_bits F 39 16 (mw J A s Q pp O) = some (nI v, mw J A s Q q O)) ∧ (tkS C pp 16 = none → ∃ v' w', f_Model_bits F 39 16 (mw J A s Q pp O) = some (v', w') ∧ mB J A s Q w') := fun pp hpp => mw_bits (n := 16) hF h hS (by omega) (by decide) hpp
  have b47 : ∀ (x : Int32) J' A', J' 39 11 = 1 → b_Model_storedBlock_47 F 39 x 39 (YW J' A' s Q) = some ((), YW J' A' s Q) := by
    intro x J' A' h'
    unfold b_Model_storedBlock_47 b_Model_storedBlock_52
    rw [if_pos (Or.inr rfl)]
    simp only [wp_M, Option.bind_some]
    rw [pj_id h']
    obtain ⟨G, rfl⟩ : ∃ q, F = q + 1 := ⟨F - 1, by omega⟩
    show b_Model_storedBlock_57 (G + 1) (l_Model_storedBlock_57 (G + 1) G) 39 x 0 _ = _
    unfold b_Model_storedBlock_57
    simp only [wg_M, Option.bind_some]
    rw [h', if_neg (show ¬ (1 : Int32) = 0 by decide)]
    exact ite_self _
  unfold f_Model_storedBlock b_Model_storedBlock_0 stS
  simp only [mw_g, Option.bind_some]
  rw [show (7 : Int32) = nI 7 from rfl, nI_add, show (8 : Int32) = nI 8 from rfl, pk_div (by omega) (by decide) (by decide), pk_mul, eput, Option.bind_some, mw_o]
  have q1 := n16 ((p + 7) / 8 * 8) (by omega)
  cases e1 : tkS C ((p + 7) / 8 * 8) 16 with
  | none =>
    obtain ⟨v', w', f1, f2⟩ := q1.2 e1
    refine ⟨fun p' O' e => (by cases e), fun _ => ?_⟩
    obtain ⟨J', A', rfl, g1, g2⟩ := f2
    obtain ⟨v2, f3⟩ := m_bits_bad (F := F) (A := A') (s := s) (Q := Q) hF g2 (n := 16) (by decide)
    rw [f1, Option.bind_some]
    simp only [wo_M, Option.bind_some]
    rw [show f_Model_bits F 39 16 (YW J' A' s Q) = _ from f3, Option.bind_some]
    simp only [wg_M, Option.bind_some]
    rw [g2, if_neg (show ¬ (1 : Int32) = 0 by decide), b47 _ J' A' g2]
    exact ⟨_, rfl, J', A', rfl, g1, g2⟩
  | some x1 =>
    obtain ⟨n, p1⟩ := x1
    have t1 := tkS_lt e1
    rw [q1.1 n p1 e1, Option.bind_some]
    simp only [mw_o]
    have q2 := n16 p1 t1.2.2
    cases e2 : tkS C p1 16 with
    | none =>
      obtain ⟨v', w', f1, f2⟩ := q2.2 e2
      refine ⟨fun p' O' e => (by cases e), fun _ => ?_⟩
      obtain ⟨J', A', rfl, g1, g2⟩ := f2
      rw [f1, Option.bind_some]
      simp only [wg_M, Option.bind_some]
      rw [g2, if_neg (show ¬ (1 : Int32) = 0 by decide), b47 _ J' A' g2]
      exact ⟨_, rfl, J', A', rfl, g1, g2⟩
    | some x2 =>
      obtain ⟨m, p2⟩ := x2
      have t2 := tkS_lt e2
      rw [q2.1 m p2 e2, Option.bind_some]
      simp only [mw_g, Option.bind_some]
      rw [if_pos trivial, nI_add]
      by_cases c1 : n + m = 65535
      · rw [if_pos (show nI (n + m) = (65535 : Int32) by rw [c1]; rfl)]
        unfold b_Model_storedBlock_52
        rw [if_pos (Or.inl rfl), mw_p0, Option.bind_some]
        have hl := m_st_l (F := F) (s := s) (Q := Q) (O := O) hF h hS (n := n) (i0 := p2 / 8) (by omega) (by omega) hO F 0 (Nat.zero_le _) (by omega) (by omega) (by omega)
        rw [List.take_zero, List.append_nil, Nat.add_zero, show 8 * (p2 / 8) = p2 by omega, show 8 * (p2 / 8 + n) = p2 + 8 * n by omega] at hl
        by_cases c2 : p2 + 8 * n ≤ 8 * C.length ∧ O.length + n ≤ 200
        · rw [if_pos ⟨c1, c2⟩]
          exact ⟨fun p' O' e => (by cases e; exact hl.1 (by omega)), fun e => (by cases e)⟩
        · rw [if_neg (fun q => c2 q.2)]
          exact ⟨fun p' O' e => (by cases e), fun _ => hl.2 (by omega)⟩
      · rw [if_neg (show ¬ nI (n + m) = (65535 : Int32) from fun z => c1 ((nI_eq (b := 65535) (by omega) (by decide)).mp z)), if_neg (fun q => c1 q.1)]
        refine ⟨fun p' O' e => (by cases e), fun _ => ?_⟩
        obtain ⟨J', f1, f2, f3⟩ := mw_p1 (J := J) (s := s) (Q := Q) (p := p2) (O := O) hS (by omega)
        unfold b_Model_storedBlock_47 b_Model_storedBlock_52
        rw [if_pos (Or.inr rfl), f1, Option.bind_some]
        have := b47 (nI n) J' (ud A 42 (wr (A 42) 0 O)) f2
        unfold b_Model_storedBlock_47 b_Model_storedBlock_52 at this
        rw [if_pos (Or.inr rfl)] at this
        simp only [wp_M, Option.bind_some] at this
        rw [pj_id f2] at this
        exact ⟨_, this, J', _, rfl, f3, f2⟩
end Mk
