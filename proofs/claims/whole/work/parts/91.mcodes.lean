/-! Codes read or fixed, by the reference. -/
def mA (A A2 : yA) : Prop := Sh A2 ∧ ∀ j, j < 44 ∨ 46 < j → A2 j = A j
section Mc
variable {J : yJ} {A : yA} {s : Nat} {Q : zW} {F p : Nat} {C O : List Int32}
theorem mA.rf (hS : Sh A) : mA A A := ⟨hS, fun _ _ => rfl⟩
theorem mA.tr {A1 A2 : yA} (h1 : mA A A1) (h2 : mA A1 A2) : mA A A2 := ⟨h2.1, fun j hj => (h2.2 j hj).trans (h1.2 j hj)⟩
theorem mA.fr {A2 : yA} (h : mA A A2) : mfr J A J A2 := ⟨h.1, fun _ _ => rfl, fun _ _ _ _ => rfl, fun j hj => h.2 j (by omega)⟩
theorem mA.ud (hS : Sh A) {k : Nat} {xs : List Int32} (hk : 44 ≤ k ∧ k ≤ 46) (h : xs.length = (A k).length) : mA A (ud A k xs) := ⟨hS.ud h, fun j hj => ud_n (by omega)⟩
theorem mA.src {A2 : yA} (h : mA A A2) (hs : Srm J A C) : Srm J A2 C := hs.eq rfl (h.2 43 (by omega))
theorem mB.mA {A2 : yA} {w : zW} (h : mA A A2) (h2 : mB J A2 s Q w) : mB J A s Q w := h2.tr h.fr
theorem mw_base {A2 : yA} (hS : Sh A) (hO : O.length ≤ 400) (h : mA (ud A 42 (wr (A 42) 0 O)) A2) : mA A (ud A2 42 (A 42)) ∧ YW (pj (pj (pj J 39 6 (nI O.length)) 39 10 (nI p)) 39 11 0) A2 s Q = mw J (ud A2 42 (A 42)) s Q p O := by
  have h42 : (A 42).length = 400 := hS 42
  have e : A2 42 = wr (A 42) 0 O := by rw [h.2 42 (by omega), ud_s]
  refine ⟨⟨h.1.ud (by rw [e, wr_len (by omega)]), ?_⟩, ?_⟩
  · intro j hj
    by_cases q : j = 42
    · subst q; rw [ud_s]
    · rw [ud_n q, h.2 j hj, ud_n q]
  · unfold mw mu
    rw [ud_s, ud_ud, ud_id e]
theorem mw_44 {i : Nat} (hi : i < 339) (hS : Sh A) (x : Int32) : aset (mw J A s Q p O) 44 (nI i) x = some (mw J (ud A 44 ((A 44).set i x)) s Q p O) := by
  have h44 : (A 44).length = 339 := hS 44
  unfold mw mu
  rw [as_ (by decide) (by rw [ud_n (by decide)]; omega) (by rw [ud_n (by decide)]; omega), ud_n (by decide), ud_n (by decide), ud_comm (show (42 : Nat) ≠ 44 by decide)]
theorem mw_46 {i : Nat} (hi : i < 320) (hS : Sh A) (x : Int32) : aset (mw J A s Q p O) 46 (nI i) x = some (mw J (ud A 46 ((A 46).set i x)) s Q p O) := by
  have h46 : (A 46).length = 320 := hS 46
  unfold mw mu
  rw [as_ (by decide) (by rw [ud_n (by decide)]; omega) (by rw [ud_n (by decide)]; omega), ud_n (by decide), ud_n (by decide), ud_comm (show (42 : Nat) ≠ 46 by decide)]
theorem mw_words {ls : List Nat} {fr : Nat} (hF : 20000 ≤ F) (hS : Sh A) (hO : O.length ≤ 400) (hl : hL44 A fr ls) (h15 : ∀ l ∈ ls, l ≤ 15) (hfr : fr + ls.length ≤ 339) : ∃ ws, f_Model_makeWords F 39 (nI fr) (nI ls.length) (mw J A s Q p O) = some (if kS ls 15 ≤ 32768 then 1 else 0, mw J (ud A 45 ws) s Q p O) ∧ ws.length = 339 ∧ (∀ j, j < ls.length → 0 < ls.getD j 0 → ws[fr + j]? = some (nI (kW ls j))) ∧ ∀ j, j < fr ∨ fr + ls.length ≤ j → ws[j]? = (A 45)[j]? := by
  obtain ⟨ws, e, f1, f2, f3⟩ := m_words (F := F) (J := pj (pj (pj J 39 6 (nI O.length)) 39 10 (nI p)) 39 11 0) (s := s) (Q := Q) (A := ud A 42 (wr (A 42) 0 O)) (fr := fr) (ls := ls) hF (mw_S hS hO) (fun k hk => by rw [ud_n (by decide)]; exact hl k hk) h15 hfr
  rw [ud_n (by decide)] at f3
  refine ⟨ws, ?_, f1, f2, f3⟩
  unfold mw mu
  rw [ud_n (by decide), ud_comm (show (45 : Nat) ≠ 42 by decide)]
  exact e
/-! both codes made -/
theorem m_two_words {l1 l2 : List Nat} (hF : 20000 ≤ F) (hS : Sh A) (h1 : hL44 A 0 l1) (h2 : hL44 A 288 l2) (a15 : ∀ l ∈ l1, l ≤ 15) (b15 : ∀ l ∈ l2, l ≤ 15) (hl1 : l1.length = 288) (hl2 : l2.length = 32) : ∃ ws1 ws, f_Model_makeWords F 39 0 288 (YW J A s Q) = some (if kS l1 15 ≤ 32768 then 1 else 0, YW J (ud A 45 ws1) s Q) ∧ f_Model_makeWords F 39 288 32 (YW J (ud A 45 ws1) s Q) = some (if kS l2 15 ≤ 32768 then 1 else 0, YW J (ud A 45 ws) s Q) ∧ mA A (ud A 45 ws) ∧ WDt (ud A 45 ws) 0 l1 ∧ WDt (ud A 45 ws) 288 l2 := by
  have h45 : (A 45).length = 339 := hS 45
  obtain ⟨ws1, e1, f1, f2, f3⟩ := m_words (F := F) (J := J) (s := s) (Q := Q) (A := A) (fr := 0) (ls := l1) hF hS h1 a15 (by omega)
  have hS1 : Sh (ud A 45 ws1) := hS.ud (by omega)
  obtain ⟨ws2, e2, g1, g2, g3⟩ := m_words (F := F) (J := J) (s := s) (Q := Q) (A := ud A 45 ws1) (fr := 288) (ls := l2) hF hS1 (fun k hk => by rw [ud_n (by decide)]; exact h2 k hk) b15 (by omega)
  rw [ud_ud] at e2
  rw [ud_s] at g3
  rw [hl1] at e1
  rw [hl2] at e2
  refine ⟨ws1, ws2, e1, e2, mA.ud hS (by decide) (by omega), ⟨fun k hk => by rw [ud_n (by decide)]; exact h1 k hk, ?_⟩, ⟨fun k hk => by rw [ud_n (by decide)]; exact h2 k hk, ?_⟩⟩
  · intro j hj h0
    rw [ud_s, g3 (0 + j) (Or.inl (by omega))]
    exact f2 j hj h0
  · intro j hj h0
    rw [ud_s]
    exact g2 j hj h0
theorem m_fx_63 (hF : 20000 ≤ F) : ∀ (m k : Nat) (A : yA), Sh A → k ≤ 32 → 32 - k < m → hL44 A 0 fL1 → (∀ j, j < k → (A 44)[288 + j]? = some (nI 5)) → ∃ A2, l_Model_fixCodes_63 F m 39 (nI (288 + k)) (YW J A s Q) = some ((), YW (pj J 39 11 0) A2 s Q) ∧ mA A A2 ∧ WDt A2 0 fL1 ∧ WDt A2 288 fL2 := by
  intro m
  induction m with
  | zero => intro k A _ _ h; omega
  | succ m ih =>
    intro k A hS hk hm h1 h2
    have h44 : (A 44).length = 339 := hS 44
    show ∃ A2, b_Model_fixCodes_63 F (l_Model_fixCodes_63 F m) 39 (nI (288 + k)) (YW J A s Q) = _ ∧ _
    unfold b_Model_fixCodes_63
    by_cases hlt : k < 32
    · rw [if_neg (show ¬ (320 : Int32) ≤ nI (288 + k) from nI_ge (b := 320) (by omega) (by decide))]
      simp only [wg_M, Option.bind_some]
      rw [as_ (by decide) (by omega) (by omega), Option.bind_some, nI_1, show 288 + k + 1 = 288 + (k + 1) by omega]
      obtain ⟨A2, e, f1, f2, f3⟩ := ih (k + 1) (ud A 44 ((A 44).set (288 + k) 5)) (hS.ud List.length_set) (by omega) (by omega) (by
        intro j hj
        rw [fL1_len] at hj
        rw [ud_s, List.getElem?_set_ne (by omega)]
        exact h1 j (by rw [fL1_len]; exact hj)) (by
        intro j hj
        rw [ud_s]
        by_cases q : j = k
        · subst q; rw [List.getElem?_set_self (by omega)]; rfl
        · rw [List.getElem?_set_ne (by omega)]; exact h2 j (by omega))
      exact ⟨A2, e, (mA.ud hS (by decide) List.length_set).tr f1, f2, f3⟩
    · have ek : k = 32 := by omega
      subst ek
      obtain ⟨ws1, ws, e1, e2, f1, f2, f3⟩ := m_two_words (F := F) (J := J) (s := s) (Q := Q) (A := A) (l1 := fL1) (l2 := fL2) hF hS h1 (fun j hj => by rw [h2 j hj, fL2_g hj]) fL1_15 fL2_15 fL1_len rfl
      rw [if_pos fL1_S] at e1
      rw [if_pos fL2_S] at e2
      rw [if_pos (by decide)]
      simp only [wo_M, Option.bind_some, e1, e2]
      rw [if_neg (show ¬ (1 : Int32) = 0 by decide), if_neg (show ¬ (1 : Int32) = 0 by decide)]
      unfold b_Model_fixCodes_116
      rw [if_pos (Or.inl rfl)]
      simp only [wp_M, Option.bind_some]
      exact ⟨_, rfl, f1, f2, f3⟩
theorem m_fx_2 (hF : 20000 ≤ F) : ∀ (m k : Nat) (A : yA), Sh A → k ≤ 288 → 288 - k < m → (∀ j, j < k → (A 44)[j]? = some (nI (fL1.getD j 0))) → ∃ A2, l_Model_fixCodes_2 F m 39 (nI k) (YW J A s Q) = some ((), YW (pj J 39 11 0) A2 s Q) ∧ mA A A2 ∧ WDt A2 0 fL1 ∧ WDt A2 288 fL2 := by
  intro m
  induction m with
  | zero => intro k A _ _ h; omega
  | succ m ih =>
    intro k A hS hk hm h1
    have h44 : (A 44).length = 339 := hS 44
    show ∃ A2, b_Model_fixCodes_2 F (l_Model_fixCodes_2 F m) 39 (nI k) (YW J A s Q) = _ ∧ _
    unfold b_Model_fixCodes_2 b_Model_fixCodes_52
    by_cases hlt : k < 288
    · rw [if_neg (show ¬ (288 : Int32) ≤ nI k from nI_ge (b := 288) hlt (by decide))]
      simp only [wg_M, Option.bind_some]
      have go : ∃ A2, ((aset (YW J A s Q) 44 (nI k) (nI (fL1.getD k 0))).bind fun w52 => l_Model_fixCodes_2 F m 39 (nI k + 1) w52) = some ((), YW (pj J 39 11 0) A2 s Q) ∧ mA A A2 ∧ WDt A2 0 fL1 ∧ WDt A2 288 fL2 := by
        rw [as_ (by decide) (by omega) (by omega), Option.bind_some, nI_1]
        obtain ⟨A2, e, f1, f2, f3⟩ := ih (k + 1) (ud A 44 ((A 44).set k (nI (fL1.getD k 0)))) (hS.ud List.length_set) (by omega) (by omega) (by
          intro j hj
          rw [ud_s]
          by_cases q : j = k
          · subst q; rw [List.getElem?_set_self (by omega)]
          · rw [List.getElem?_set_ne (by omega)]; exact h1 j (by omega))
        exact ⟨A2, e, (mA.ud hS (by decide) List.length_set).tr f1, f2, f3⟩
      rw [fL1_g hlt] at go
      by_cases c1 : k < 144
      · rw [if_neg (show ¬ (144 : Int32) ≤ nI k from nI_ge (b := 144) c1 (by decide))]
        rw [if_pos c1] at go
        exact go
      · rw [if_pos (show (144 : Int32) ≤ nI k from nI_le (a := 144) (by omega) (by omega))]
        rw [if_neg c1] at go
        by_cases c2 : k < 256
        · rw [if_neg (show ¬ (256 : Int32) ≤ nI k from nI_ge (b := 256) c2 (by decide))]
          rw [if_pos c2] at go
          exact go
        · rw [if_pos (show (256 : Int32) ≤ nI k from nI_le (a := 256) (by omega) (by omega))]
          rw [if_neg c2] at go
          by_cases c3 : k < 280
          · rw [if_neg (show ¬ (280 : Int32) ≤ nI k from nI_ge (b := 280) c3 (by decide))]
            rw [if_pos c3] at go
            exact go
          · rw [if_pos (show (280 : Int32) ≤ nI k from nI_le (a := 280) (by omega) (by omega))]
            rw [if_neg c3] at go
            exact go
    · have ek : k = 288 := by omega
      subst ek
      rw [if_pos (by decide)]
      exact m_fx_63 hF F 0 A hS (by decide) (by omega) (fun j hj => by rw [fL1_len] at hj; rw [Nat.zero_add]; exact h1 j hj) (fun j hj => by omega)
theorem m_fix (hF : 20000 ≤ F) (hS : Sh A) : ∃ A2, f_Model_fixCodes F 39 (YW J A s Q) = some ((), YW (pj J 39 11 0) A2 s Q) ∧ mA A A2 ∧ WDt A2 0 fL1 ∧ WDt A2 288 fL2 := m_fx_2 hF F 0 A hS (by decide) (by omega) (fun j hj => by omega)
theorem WDt_u42 {A2 : yA} {fr : Nat} {ls : List Nat} {xs : List Int32} (h : WDt A2 fr ls) : WDt (ud A2 42 xs) fr ls := h.ud
theorem m_fixed (hF : 20000 ≤ F) (hS : Sh A) (hO : O.length ≤ 400) : ∃ A2, f_Model_fixCodes F 39 (mw J A s Q p O) = some ((), mw J A2 s Q p O) ∧ mA A A2 ∧ WDt A2 0 fL1 ∧ WDt A2 288 fL2 := by
  obtain ⟨A2, e, f1, f2, f3⟩ := m_fix (F := F) (J := pj (pj (pj J 39 6 (nI O.length)) 39 10 (nI p)) 39 11 0) (s := s) (Q := Q) hF (mw_S hS hO)
  rw [pj_pj] at e
  obtain ⟨g1, g2⟩ := mw_base (J := J) (s := s) (Q := Q) (p := p) hS hO f1
  refine ⟨_, ?_, g1, WDt_u42 f2, WDt_u42 f3⟩
  rw [← g2]
  exact e
/-! readRow -/
theorem rr_148 (hO : O.length ≤ 400) {d t v : Nat} (hn : d + t ≤ 320) {x : Int32} {K2 : Nat → Int32 → Int32 → zW → Option (Unit × zW)} : ∀ (m k : Nat) (A : yA), Sh A → k ≤ t → t - k < m → ∃ xs, l_Model_readRow_148 F K2 m 39 x (nI (d + k)) (nI t) (nI v) (nI k) (mw J A s Q p O) = K2 39 x (nI (d + t)) (mw J (ud A 46 xs) s Q p O) ∧ xs.length = 320 ∧ (∀ j, d + k ≤ j → j < d + t → xs[j]? = some (nI v)) ∧ ∀ j, j < d + k → xs[j]? = (A 46)[j]? := by
  intro m
  induction m with
  | zero => intro k A _ _ h; omega
  | succ m ih =>
    intro k A hS hk hm
    have h46 : (A 46).length = 320 := hS 46
    show ∃ xs, b_Model_readRow_148 F K2 (l_Model_readRow_148 F K2 m) 39 x (nI (d + k)) (nI t) (nI v) (nI k) (mw J A s Q p O) = _ ∧ _
    unfold b_Model_readRow_148 b_Model_readRow_179
    by_cases hlt : k < t
    · rw [if_neg (nI_ge hlt (by omega))]
      simp only [mw_g, Option.bind_some]
      rw [if_pos trivial, show getR (mw J A s Q p O) 39 9 14 = some 46 from rfl, Option.bind_some, mw_46 (by omega) hS, Option.bind_some, nI_1, nI_1, show d + k + 1 = d + (k + 1) by omega]
      obtain ⟨xs, e, f1, f2, f3⟩ := ih (k + 1) (ud A 46 ((A 46).set (d + k) (nI v))) (hS.ud List.length_set) (by omega) (by omega)
      rw [ud_ud] at e
      refine ⟨xs, e, f1, ?_, ?_⟩
      · intro j h1 h2
        by_cases q : j = d + k
        · subst q
          rw [f3 _ (by omega), ud_s, List.getElem?_set_self (by omega)]
        · exact f2 j (by omega) h2
      · intro j hj
        rw [f3 j (by omega), ud_s, List.getElem?_set_ne (by omega)]
    · have ek : k = t := by omega
      subst ek
      rw [if_pos (nI_le (by omega) (by omega))]
      exact ⟨A 46, by rw [ud_id rfl], h46, fun j h1 h2 => by omega, fun j _ => rfl⟩
theorem rr_148b (hF : 20000 ≤ F) (h : J 39 11 = 1) {K2 : Nat → Int32 → Int32 → zW → Option (Unit × zW)} {x y z v : Int32} : l_Model_readRow_148 F K2 F 39 x y z v 0 (YW J A s Q) = K2 39 x y (YW J A s Q) := by
  obtain ⟨G, rfl⟩ : ∃ q, F = q + 1 := ⟨F - 1, by omega⟩
  show b_Model_readRow_148 (G + 1) K2 (l_Model_readRow_148 (G + 1) K2 G) 39 x y z v 0 _ = _
  unfold b_Model_readRow_148 b_Model_readRow_179
  simp only [wg_M, Option.bind_some]
  rw [h, if_neg (show ¬ (1 : Int32) = 0 by decide)]
  exact ite_self _
theorem rr_108b (hF : 20000 ≤ F) (hS : Sh A) (h : J 39 11 = 1) {K2 : Nat → Int32 → Int32 → zW → Option (Unit × zW)} {x v3 v4 : Int32} {k : Nat} (hk : k ≤ 320) : b_Model_readRow_108 F K2 39 x (nI k) v3 v4 39 1 (YW J A s Q) = K2 39 x (nI k) (YW J A s Q) := by
  have h46 : (A 46).length = 320 := hS 46
  unfold b_Model_readRow_108 b_Model_readRow_142 b_Model_readRow_143
  rw [if_pos (Or.inr rfl)]
  simp only [wp_M, wg_M, Option.bind_some]
  rw [pj_id h]
  by_cases c1 : (16 : Int32) ≤ v3
  · rw [if_pos c1]
    by_cases c2 : v3 = 16
    · rw [if_pos c2]
      by_cases c3 : 0 < k
      · have hg : aget (YW J A s Q) 46 (nI k - 1) = some (A 46)[k - 1] := by
          rw [show (1 : Int32) = nI 1 from rfl, pk_sub c3]
          exact ag_ (by decide) (by omega) (List.getElem?_eq_getElem (by omega))
        rw [if_neg (nI_nle c3 (by omega)), hg, Option.bind_some, rr_148b hF h]
      · rw [if_pos (by rw [show k = 0 by omega]; decide), rr_148b hF h]
    · rw [if_neg c2, rr_148b hF h]
  · rw [if_neg c1, rr_148b hF h]
theorem rr_108w (hF : 20000 ≤ F) (hS : Sh A) (hO : O.length ≤ 400) {K2 : Nat → Int32 → Int32 → zW → Option (Unit × zW)} {x v3 v4 : Int32} {k : Nat} (hk : k ≤ 320) : ∃ J1, b_Model_readRow_108 F K2 39 x (nI k) v3 v4 39 1 (mw J A s Q p O) = K2 39 x (nI k) (YW J1 (ud A 42 (wr (A 42) 0 O)) s Q) ∧ J1 39 11 = 1 ∧ mfr J A J1 (ud A 42 (wr (A 42) 0 O)) := by
  obtain ⟨J1, q1, q2, q3⟩ := mw_p1 (J := J) (s := s) (Q := Q) (p := p) (O := O) hS hO
  refine ⟨J1, ?_, q2, q3⟩
  have := rr_108b (F := F) (A := ud A 42 (wr (A 42) 0 O)) (s := s) (Q := Q) (K2 := K2) (x := x) (v3 := v3) (v4 := v4) (k := k) hF (mw_S hS hO) q2 hk
  unfold b_Model_readRow_108 at this ⊢
  rw [if_pos (Or.inr rfl)] at this ⊢
  have q4 : putI (YW J1 (ud A 42 (wr (A 42) 0 O)) s Q) 39 9 11 1 = some (YW J1 (ud A 42 (wr (A 42) 0 O)) s Q) := by
    simp only [wp_M]
    rw [pj_id q2]
  rw [q4, Option.bind_some] at this
  rw [q1, Option.bind_some]
  exact this
theorem rr_75b (hF : 20000 ≤ F) (hS : Sh A) (h : J 39 11 = 1) {K2 : Nat → Int32 → Int32 → zW → Option (Unit × zW)} {x v3 v4 : Int32} {k : Nat} (hk : k ≤ 320) : b_Model_readRow_75 F K2 39 x (nI k) v3 v4 (YW J A s Q) = K2 39 x (nI k) (YW J A s Q) := by
  unfold b_Model_readRow_75 b_Model_readRow_103
  simp only [wg_M, Option.bind_some]
  rw [h, if_neg (show ¬ (1 : Int32) = 0 by decide), rr_108b hF hS h hk]
theorem rr_2b {m : Nat} (hm : 0 < m) (h : J 39 11 = 1) {x y : Int32} : l_Model_readRow_2 F m 39 x y (YW J A s Q) = some ((), YW J A s Q) := by
  obtain ⟨m, rfl⟩ : ∃ q, m = q + 1 := ⟨m - 1, by omega⟩
  show b_Model_readRow_2 F (l_Model_readRow_2 F m) 39 x y _ = _
  unfold b_Model_readRow_2
  simp only [wg_M, Option.bind_some]
  rw [h, if_neg (show ¬ (1 : Int32) = 0 by decide)]
  exact ite_self _
def rlT (cl : List Nat) (C : List Int32) (n m sy p1 : Nat) (D : List Nat) : Option (List Nat × Nat) := if sy = 16 ∧ D.length = 0 then none else match tkS C p1 (xR sy) with
  | none => none
  | some (u, p2) => if D.length + (u + tR sy) ≤ n then rlS cl C n m p2 (D ++ List.replicate (u + tR sy) (vR sy D)) else none
theorem rlS_succ {cl : List Nat} {n m : Nat} {D : List Nat} : rlS cl C n (m + 1) p D = if n ≤ D.length then some (D, p) else match symS cl C p with
    | none => none
    | some (sy, p1) => rlT cl C n m sy p1 D := rfl
theorem rlT_n {cl : List Nat} {n m sy p1 : Nat} {D : List Nat} (h : tkS C p1 (xR sy) = none) : rlT cl C n m sy p1 D = none := by
  unfold rlT
  rw [h]
  exact ite_self _
theorem rlT_s {cl : List Nat} {n m sy p1 u p2 : Nat} {D : List Nat} (h : tkS C p1 (xR sy) = some (u, p2)) : rlT cl C n m sy p1 D = if sy = 16 ∧ D.length = 0 then none else if D.length + (u + tR sy) ≤ n then rlS cl C n m p2 (D ++ List.replicate (u + tR sy) (vR sy D)) else none := by
  unfold rlT
  rw [h]
def hR46 (A : yA) (D : List Nat) : Prop := ∀ j, j < D.length → (A 46)[j]? = some (nI (D.getD j 0))
/-- readRow -/
theorem m_rr {cl : List Nat} {n : Nat} (hF : 20000 ≤ F) (hO : O.length ≤ 200) (hn : n ≤ 320) (hcl : cl.length = 19) (c15 : ∀ l ∈ cl, l ≤ 15) : ∀ (m q p : Nat) (A : yA) (D : List Nat), Sh A → Srm J A C → WDt A 320 cl → hR46 A D → D.length ≤ n → n - D.length < m → n - D.length < q → p ≤ 8 * C.length → (∀ l ∈ D, l ≤ 15) → (∀ D2 p2, rlS cl C n m p D = some (D2, p2) → ∃ xs, l_Model_readRow_2 F q 39 (nI n) (nI D.length) (mw J A s Q p O) = some ((), mw J (ud A 46 xs) s Q p2 O) ∧ xs.length = 320 ∧ ∀ j, j < D2.length → xs[j]? = some (nI (D2.getD j 0))) ∧ (rlS cl C n m p D = none → ∃ w', l_Model_readRow_2 F q 39 (nI n) (nI D.length) (mw J A s Q p O) = some ((), w') ∧ mB J A s Q w') := by
  intro m
  induction m with
  | zero => intro q p A D _ _ _ _ _ h; omega
  | succ m ih =>
    intro q p A D hS hsrc hW hR hDn hm hq hp h15
    obtain ⟨q, rfl⟩ : ∃ q', q = q' + 1 := ⟨q - 1, by omega⟩
    have ef : l_Model_readRow_2 F (q + 1) 39 (nI n) (nI D.length) (mw J A s Q p O) = b_Model_readRow_2 F (l_Model_readRow_2 F q) 39 (nI n) (nI D.length) (mw J A s Q p O) := rfl
    rw [ef]
    rw [rlS_succ]
    unfold b_Model_readRow_2
    have h46 : (A 46).length = 320 := hS 46
    by_cases hfin : n ≤ D.length
    · rw [if_pos hfin, if_pos (nI_le hfin (by omega))]
      exact ⟨fun D2 p2 e => (by cases e; exact ⟨A 46, by rw [ud_id rfl], h46, hR⟩), fun e => (by cases e)⟩
    · rw [if_neg hfin, if_neg (nI_ge (by omega) (by omega))]
      simp only [mw_g, Option.bind_some]
      rw [if_pos trivial, mw_o]
      have hsy := mw_sym (F := F) (s := s) (Q := Q) (O := O) hF hsrc hS (by omega) hW c15 (by omega) hp
      rw [hcl, show (nI 320 : Int32) = 320 from rfl, show (nI 19 : Int32) = 19 from rfl] at hsy
      have bad75 : ∀ {w : zW} (v3 v4 : Int32), mB J A s Q w → ∃ w', b_Model_readRow_75 F (l_Model_readRow_2 F q) 39 (nI n) (nI D.length) v3 v4 w = some ((), w') ∧ mB J A s Q w' := by
        intro w v3 v4 hb
        obtain ⟨J', A', rfl, g1, g2⟩ := hb
        rw [rr_75b hF g1.1 g2 (by omega), rr_2b (by omega) g2]
        exact ⟨_, rfl, J', A', rfl, g1, g2⟩
      cases es : symS cl C p with
      | none =>
        obtain ⟨w', f1, f2⟩ := hsy.2 es
        refine ⟨fun D2 p2 e => (by cases e), fun _ => ?_⟩
        rw [f1, Option.bind_some]
        simp only []
        rw [if_neg (by decide)]
        exact bad75 0 1 f2
      | some x =>
        obtain ⟨sy, p1⟩ := x
        have t1 := symS_lt es
        rw [hsy.1 sy p1 es, Option.bind_some]
        simp only []
        have hxR := xR_le sy
        have htR := tR_pos sy
        have hvR := vR_15 (sy := sy) h15
        -- behind the bits
        have tail : ∀ (u p2 : Nat), tkS C p1 (xR sy) = some (u, p2) → (∀ D2 p3, (if sy = 16 ∧ D.length = 0 then none else if D.length + (u + tR sy) ≤ n then rlS cl C n m p2 (D ++ List.replicate (u + tR sy) (vR sy D)) else none) = some (D2, p3) → ∃ xs, b_Model_readRow_75 F (l_Model_readRow_2 F q) 39 (nI n) (nI D.length) (nI sy) (nI (u + tR sy)) (mw J A s Q p2 O) = some ((), mw J (ud A 46 xs) s Q p3 O) ∧ xs.length = 320 ∧ ∀ j, j < D2.length → xs[j]? = some (nI (D2.getD j 0))) ∧ ((if sy = 16 ∧ D.length = 0 then none else if D.length + (u + tR sy) ≤ n then rlS cl C n m p2 (D ++ List.replicate (u + tR sy) (vR sy D)) else none) = none → ∃ w', b_Model_readRow_75 F (l_Model_readRow_2 F q) 39 (nI n) (nI D.length) (nI sy) (nI (u + tR sy)) (mw J A s Q p2 O) = some ((), w') ∧ mB J A s Q w') := by
          intro u p2 e1
          have t2 := tkS_lt e1
          have hu : u < 2 ^ 7 := Nat.lt_of_lt_of_le t2.1 (Nat.pow_le_pow_right (by decide) hxR)
          have to103 : ∃ w', b_Model_readRow_103 F (l_Model_readRow_2 F q) 39 (nI n) (nI D.length) (nI sy) (nI (u + tR sy)) 39 (mw J A s Q p2 O) = some ((), w') ∧ mB J A s Q w' := by
            unfold b_Model_readRow_103
            obtain ⟨J1, q1, q2, q3⟩ := rr_108w (F := F) (J := J) (s := s) (Q := Q) (p := p2) (O := O) (K2 := l_Model_readRow_2 F q) (x := nI n) (v3 := nI sy) (v4 := nI (u + tR sy)) (k := D.length) hF hS (by omega) (by omega)
            rw [q1, rr_2b (by omega) q2]
            exact ⟨_, rfl, J1, _, rfl, q3, q2⟩
          have to95 : ¬ (sy = 16 ∧ D.length = 0) → (∀ D2 p3, (if D.length + (u + tR sy) ≤ n then rlS cl C n m p2 (D ++ List.replicate (u + tR sy) (vR sy D)) else none) = some (D2, p3) → ∃ xs, b_Model_readRow_95 F (l_Model_readRow_2 F q) 39 (nI n) (nI D.length) (nI sy) (nI (u + tR sy)) 39 (mw J A s Q p2 O) = some ((), mw J (ud A 46 xs) s Q p3 O) ∧ xs.length = 320 ∧ ∀ j, j < D2.length → xs[j]? = some (nI (D2.getD j 0))) ∧ ((if D.length + (u + tR sy) ≤ n then rlS cl C n m p2 (D ++ List.replicate (u + tR sy) (vR sy D)) else none) = none → ∃ w', b_Model_readRow_95 F (l_Model_readRow_2 F q) 39 (nI n) (nI D.length) (nI sy) (nI (u + tR sy)) 39 (mw J A s Q p2 O) = some ((), w') ∧ mB J A s Q w') := by
            intro hno
            unfold b_Model_readRow_95
            rw [nI_add]
            by_cases c2 : D.length + (u + tR sy) ≤ n
            · rw [if_pos c2, if_pos (nI_le c2 (by omega))]
              have fill : (∀ D2 p3, rlS cl C n m p2 (D ++ List.replicate (u + tR sy) (vR sy D)) = some (D2, p3) → ∃ xs, l_Model_readRow_148 F (l_Model_readRow_2 F q) F 39 (nI n) (nI D.length) (nI (u + tR sy)) (nI (vR sy D)) 0 (mw J A s Q p2 O) = some ((), mw J (ud A 46 xs) s Q p3 O) ∧ xs.length = 320 ∧ ∀ j, j < D2.length → xs[j]? = some (nI (D2.getD j 0))) ∧ (rlS cl C n m p2 (D ++ List.replicate (u + tR sy) (vR sy D)) = none → ∃ w', l_Model_readRow_148 F (l_Model_readRow_2 F q) F 39 (nI n) (nI D.length) (nI (u + tR sy)) (nI (vR sy D)) 0 (mw J A s Q p2 O) = some ((), w') ∧ mB J A s Q w') := by
                obtain ⟨xs, e, f1, f2, f3⟩ := rr_148 (F := F) (J := J) (s := s) (Q := Q) (p := p2) (O := O) (by omega) (d := D.length) (t := u + tR sy) (v := vR sy D) (by omega) (x := nI n) (K2 := l_Model_readRow_2 F q) F 0 A hS (Nat.zero_le _) (by omega)
                rw [Nat.add_zero, show (nI 0 : Int32) = 0 from rfl] at e
                rw [e]
                have hmA := mA.ud (A := A) (k := 46) (xs := xs) hS (by decide) (by omega)
                have hW' : WDt (ud A 46 xs) 320 cl := by
                  unfold WDt hL44
                  rw [ud_n (by decide), ud_n (by decide)]
                  exact hW
                have hR' : hR46 (ud A 46 xs) (D ++ List.replicate (u + tR sy) (vR sy D)) := by
                  intro j hj
                  rw [List.length_append, List.length_replicate] at hj
                  rw [ud_s, List.getD_eq_getElem?_getD]
                  by_cases z : j < D.length
                  · rw [f3 j (by omega), hR j z, List.getElem?_append_left z, ← List.getD_eq_getElem?_getD]
                  · rw [f2 j (by omega) (by omega), List.getElem?_append_right (by omega), List.getElem?_replicate, if_pos (by omega)]
                    rfl
                have hlen : (D ++ List.replicate (u + tR sy) (vR sy D)).length = D.length + (u + tR sy) := by rw [List.length_append, List.length_replicate]
                have := ih q p2 (ud A 46 xs) (D ++ List.replicate (u + tR sy) (vR sy D)) hmA.1 (hmA.src hsrc) hW' hR' (by omega) (by omega) (by omega) t2.2.2 (by
                  intro l hl
                  rcases List.mem_append.mp hl with z | z
                  · exact h15 l z
                  · rw [List.eq_of_mem_replicate z]; exact hvR)
                rw [hlen] at this
                refine ⟨?_, fun z => ?_⟩
                · intro D2 p3 z
                  obtain ⟨ys, q1, q2, q3⟩ := this.1 D2 p3 z
                  rw [ud_ud] at q1
                  exact ⟨ys, q1, q2, q3⟩
                · obtain ⟨w', q1, q2⟩ := this.2 z
                  exact ⟨w', q1, mB.mA hmA q2⟩
              unfold b_Model_readRow_108 b_Model_readRow_142 b_Model_readRow_143
              rw [if_pos (Or.inl rfl), mw_p0, Option.bind_some]
              by_cases s16 : sy < 16
              · have v0 : vR sy D = sy := by unfold vR; rw [if_pos s16]
                rw [if_neg (show ¬ (16 : Int32) ≤ nI sy from nI_ge (b := 16) s16 (by decide))]
                rw [v0] at fill
                rw [v0]
                exact fill
              · rw [if_pos (show (16 : Int32) ≤ nI sy from nI_le (a := 16) (by omega) (by omega))]
                by_cases e16 : sy = 16
                · have hD0 : 0 < D.length := by omega
                  have v0 : vR sy D = D.getD (D.length - 1) 0 := by unfold vR; rw [if_neg s16, if_pos e16]
                  have hg : aget (mw J A s Q p2 O) 46 (nI D.length - 1) = some (nI (D.getD (D.length - 1) 0)) := by
                    rw [show (1 : Int32) = nI 1 from rfl, pk_sub hD0]
                    refine ag_ (by decide) (by omega) ?_
                    rw [ud_n (by decide)]
                    exact hR (D.length - 1) (by omega)
                  rw [if_pos (show nI sy = (16 : Int32) by rw [e16]; rfl), if_neg (nI_nle hD0 (by omega)), show getR (mw J A s Q p2 O) 39 9 14 = some 46 from rfl, Option.bind_some, hg, Option.bind_some]
                  rw [v0] at fill
                  rw [v0]
                  exact fill
                · have v0 : vR sy D = 0 := by unfold vR; rw [if_neg s16, if_neg e16]
                  rw [if_neg (show ¬ nI sy = (16 : Int32) from fun z => e16 ((nI_eq (b := 16) (by omega) (by decide)).mp z))]
                  rw [v0] at fill
                  rw [v0]
                  exact fill
            · rw [if_neg c2, if_neg (nI_ge (by omega) (by omega))]
              exact ⟨fun D2 p3 e => (by cases e), fun _ => to103⟩
          unfold b_Model_readRow_75
          simp only [mw_g, Option.bind_some]
          rw [if_pos trivial]
          by_cases e16 : sy = 16
          · rw [if_pos (show nI sy = (16 : Int32) by rw [e16]; rfl)]
            by_cases d0 : D.length = 0
            · rw [if_pos (show nI D.length = 0 by rw [d0]; rfl), if_pos ⟨e16, d0⟩]
              exact ⟨fun D2 p3 e => (by cases e), fun _ => to103⟩
            · rw [if_neg (nI_ne0 (by omega) (by omega)), if_neg (fun z => d0 z.2)]
              exact to95 (fun z => d0 z.2)
          · rw [if_neg (show ¬ nI sy = (16 : Int32) from fun z => e16 ((nI_eq (b := 16) (by omega) (by decide)).mp z)), if_neg (fun z => e16 z.1)]
            exact to95 (fun z => e16 z.1)
        have hbits : ∀ (c : Int32), c = nI (tR sy) → (∀ D2 p3, rlT cl C n m sy p1 D = some (D2, p3) → ∃ xs, ((f_Model_bits F 39 (nI (xR sy)) (mw J A s Q p1 O)).bind fun r43 => b_Model_readRow_75 F (l_Model_readRow_2 F q) 39 (nI n) (nI D.length) (nI sy) (c + r43.1) r43.2) = some ((), mw J (ud A 46 xs) s Q p3 O) ∧ xs.length = 320 ∧ ∀ j, j < D2.length → xs[j]? = some (nI (D2.getD j 0))) ∧ (rlT cl C n m sy p1 D = none → ∃ w', ((f_Model_bits F 39 (nI (xR sy)) (mw J A s Q p1 O)).bind fun r43 => b_Model_readRow_75 F (l_Model_readRow_2 F q) 39 (nI n) (nI D.length) (nI sy) (c + r43.1) r43.2) = some ((), w') ∧ mB J A s Q w') := by
          intro c hc
          have hb := mw_bits (F := F) (s := s) (Q := Q) (O := O) hF hsrc hS (by omega) (show xR sy ≤ 16 by omega) t1.2.2
          cases e1 : tkS C p1 (xR sy) with
          | none =>
            obtain ⟨v', w', f1, f2⟩ := hb.2 e1
            rw [rlT_n e1]
            refine ⟨fun D2 p3 e => (by cases e), fun _ => ?_⟩
            rw [f1, Option.bind_some]
            exact bad75 _ _ f2
          | some y =>
            obtain ⟨u, p2⟩ := y
            rw [rlT_s e1, hb.1 u p2 e1, Option.bind_some]
            simp only []
            rw [hc, nI_add, Nat.add_comm (tR sy) u]
            exact tail u p2 e1
        by_cases s16 : sy < 16
        · rw [if_neg (show ¬ (16 : Int32) ≤ nI sy from nI_ge (b := 16) s16 (by decide))]
          have x0 : xR sy = 0 := by unfold xR; rw [if_pos s16]
          have t0 : tR sy = 1 := by unfold tR; rw [if_pos s16]
          have et : tkS C p1 (xR sy) = some (0, p1) := by rw [x0]; unfold tkS; rw [if_pos (by omega)]; rfl
          have := tail 0 p1 et
          rw [rlT_s et]
          rw [show (0 + tR sy) = 1 by omega] at this ⊢
          exact this
        · rw [if_pos (show (16 : Int32) ≤ nI sy from nI_le (a := 16) (by omega) (by omega))]
          by_cases e16 : sy = 16
          · have x0 : xR sy = 2 := by unfold xR; rw [if_neg s16, if_pos e16]
            have t0 : tR sy = 3 := by unfold tR; rw [if_neg s16, if_neg (by omega)]
            rw [if_pos (show nI sy = (16 : Int32) by rw [e16]; rfl), mw_o]
            have := hbits 3 (by rw [t0]; rfl)
            rw [show (nI (xR sy) : Int32) = 2 by rw [x0]; rfl] at this
            exact this
          · rw [if_neg (show ¬ nI sy = (16 : Int32) from fun z => e16 ((nI_eq (b := 16) (by omega) (by decide)).mp z))]
            by_cases e17 : sy = 17
            · have x0 : xR sy = 3 := by unfold xR; rw [if_neg s16, if_neg e16, if_pos e17]
              have t0 : tR sy = 3 := by unfold tR; rw [if_neg s16, if_neg (by omega)]
              rw [if_pos (show nI sy = (17 : Int32) by rw [e17]; rfl), mw_o]
              have := hbits 3 (by rw [t0]; rfl)
              rw [show (nI (xR sy) : Int32) = 3 by rw [x0]; rfl] at this
              exact this
            · have e18 : sy = 18 := by omega
              have x0 : xR sy = 7 := by unfold xR; rw [if_neg s16, if_neg e16, if_neg e17]
              have t0 : tR sy = 11 := by unfold tR; rw [if_neg s16, if_pos e18]
              rw [if_neg (show ¬ nI sy = (17 : Int32) from fun z => e17 ((nI_eq (b := 17) (by omega) (by decide)).mp z)), mw_o]
              have := hbits 11 (by rw [t0]; rfl)
              rw [show (nI (xR sy) : Int32) = 7 by rw [x0]; rfl] at this
              exact this
end Mc
