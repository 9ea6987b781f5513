/-! readCodes, by the reference. -/
section Md2
variable {J : yJ} {A : yA} {s : Nat} {Q : zW} {F p : Nat} {C O : List Int32}
/-- both codes made, or one of them too full -/
theorem m_149e {l1 l2 : List Nat} (hF : 20000 ≤ F) (hS : Sh A) (h1 : hL44 A 0 l1) (h2 : hL44 A 288 l2) (a15 : ∀ l ∈ l1, l ≤ 15) (b15 : ∀ l ∈ l2, l ≤ 15) (hl1 : l1.length = 288) (hl2 : l2.length = 32) (hO : O.length ≤ 400) {K : Nat → Int32 → Int32 → Int32 → zW → Option (Unit × zW)} {x y : Int32} : (kS l1 15 ≤ 32768 ∧ kS l2 15 ≤ 32768 → ∃ A2, b_Model_readCodes_149 F K 39 x y 32 (mw J A s Q p O) = some ((), mw J A2 s Q p O) ∧ mA A A2 ∧ WDt A2 0 l1 ∧ WDt A2 288 l2) ∧ (¬ (kS l1 15 ≤ 32768 ∧ kS l2 15 ≤ 32768) → ∃ w', b_Model_readCodes_149 F K 39 x y 32 (mw J A s Q p O) = some ((), w') ∧ mB J A s Q w') := by
  have u1 : hL44 (ud A 42 (wr (A 42) 0 O)) 0 l1 := fun k hk => by rw [ud_n (by decide)]; exact h1 k hk
  have u2 : hL44 (ud A 42 (wr (A 42) 0 O)) 288 l2 := fun k hk => by rw [ud_n (by decide)]; exact h2 k hk
  obtain ⟨ws1, ws, e1, e2, f1, f2, f3⟩ := m_two_words (F := F) (J := pj (pj (pj J 39 6 (nI O.length)) 39 10 (nI p)) 39 11 0) (s := s) (Q := Q) hF (mw_S hS hO) u1 u2 a15 b15 hl1 hl2
  obtain ⟨g1, g2⟩ := mw_base (J := J) (s := s) (Q := Q) (p := p) hS hO f1
  have g3 := WDt_u42 (xs := A 42) f2
  have g4 := WDt_u42 (xs := A 42) f3
  rw [g2] at e2
  have hm1 : f_Model_makeWords F 39 0 288 (mw J A s Q p O) = _ := e1
  have hb231 : ∃ w', b_Model_readCodes_231 F 39 (mw J (ud (ud (ud A 42 (wr (A 42) 0 O)) 45 ws) 42 (A 42)) s Q p O) = some ((), w') ∧ mB J A s Q w' := by
    obtain ⟨w', q1, q2⟩ := mw_p1B (J := J) (s := s) (Q := Q) (p := p) (O := O) g1.1 hO
    unfold b_Model_readCodes_231 b_Model_readCodes_236
    rw [if_pos (Or.inr rfl), q1, Option.bind_some]
    exact ⟨w', rfl, mB.mA g1 q2⟩
  unfold b_Model_readCodes_149
  rw [if_pos (by decide), mw_o, hm1, Option.bind_some]
  simp only [wo_M, Option.bind_some, e2, mw_g]
  rw [if_pos trivial]
  by_cases c1 : kS l1 15 ≤ 32768
  · rw [if_pos c1, if_neg (show ¬ (1 : Int32) = 0 by decide)]
    by_cases c2 : kS l2 15 ≤ 32768
    · rw [if_pos c2, if_neg (show ¬ (1 : Int32) = 0 by decide)]
      refine ⟨fun _ => ?_, fun z => absurd ⟨c1, c2⟩ z⟩
      unfold b_Model_readCodes_236
      rw [if_pos (Or.inl rfl), mw_p0, Option.bind_some]
      exact ⟨_, rfl, g1, g3, g4⟩
    · rw [if_neg c2, if_pos rfl]
      exact ⟨fun z => absurd z.2 c2, fun _ => hb231⟩
  · rw [if_neg c1, if_pos rfl]
    exact ⟨fun z => absurd z.1 c1, fun _ => hb231⟩
theorem m_149b (hF : 20000 ≤ F) (hS : Sh A) (h : J 39 11 = 1) {K : Nat → Int32 → Int32 → Int32 → zW → Option (Unit × zW)} {x y : Int32} : ∃ w', b_Model_readCodes_149 F K 39 x y 32 (YW J A s Q) = some ((), w') ∧ mB J A s Q w' := by
  have h45 : (A 45).length = 339 := hS 45
  obtain ⟨b1, ws1, e1, f1, -⟩ := m_wordsA (F := F) (J := J) (A := A) (s := s) (Q := Q) (fr := 0) (n := 288) hF hS (by decide)
  have S1 : Sh (ud A 45 ws1) := hS.ud (by omega)
  obtain ⟨b2, ws2, e2, f2, -⟩ := m_wordsA (F := F) (J := J) (A := ud A 45 ws1) (s := s) (Q := Q) (fr := 288) (n := 32) hF S1 (by decide)
  rw [ud_ud] at e2
  unfold b_Model_readCodes_149 b_Model_readCodes_231 b_Model_readCodes_236
  rw [if_pos (by decide)]
  simp only [wo_M, Option.bind_some]
  rw [show f_Model_makeWords F 39 0 288 (YW J A s Q) = _ from e1, Option.bind_some]
  simp only [wo_M, Option.bind_some]
  rw [show f_Model_makeWords F 39 288 32 (YW J (ud A 45 ws1) s Q) = _ from e2, Option.bind_some]
  simp only [wg_M, Option.bind_some]
  rw [h, if_neg (show ¬ (1 : Int32) = 0 by decide), if_pos (Or.inr trivial)]
  simp only [wp_M, Option.bind_some]
  rw [pj_id h]
  exact ⟨_, rfl, J, _, rfl, (mfr.rf hS).ud (Or.inr (Or.inr (Or.inl rfl))) (by omega), h⟩
/-- the lengths of the distances taken over -/
theorem m_149l {n1 n2 : Nat} (h1 : n1 + n2 ≤ 320) (h2 : n2 ≤ 32) {K : Nat → Int32 → Int32 → Int32 → zW → Option (Unit × zW)} : ∀ (m k : Nat) (A : yA), Sh A → k ≤ 32 → 32 - k < m → ∃ xs, l_Model_readCodes_149 F m 39 (nI n1) (nI n2) (nI k) (YW J A s Q) = b_Model_readCodes_149 F K 39 0 0 32 (YW J (ud A 44 xs) s Q) ∧ xs.length = 339 ∧ (∀ j, k ≤ j → j < 32 → xs[288 + j]? = if j < n2 then (A 46)[n1 + j]? else some 0) ∧ ∀ j, j < 288 + k → xs[j]? = (A 44)[j]? := by
  intro m
  induction m with
  | zero => intro k A _ _ h; omega
  | succ m ih =>
    intro k A hS hk hm
    have h44 : (A 44).length = 339 := hS 44
    have h46 : (A 46).length = 320 := hS 46
    show ∃ xs, b_Model_readCodes_149 F (l_Model_readCodes_149 F m) 39 (nI n1) (nI n2) (nI k) (YW J A s Q) = _ ∧ _
    by_cases hlt : k < 32
    · have go : ∀ z : Int32, (if k < n2 then (A 46)[n1 + k]? else some 0) = some z → ∃ xs, ((aset (YW J A s Q) 44 (nI (288 + k)) z).bind fun w185 => l_Model_readCodes_149 F m 39 (nI n1) (nI n2) (nI k + 1) w185) = b_Model_readCodes_149 F K 39 0 0 32 (YW J (ud A 44 xs) s Q) ∧ xs.length = 339 ∧ (∀ j, k ≤ j → j < 32 → xs[288 + j]? = if j < n2 then (A 46)[n1 + j]? else some 0) ∧ ∀ j, j < 288 + k → xs[j]? = (A 44)[j]? := by
        intro z hz
        rw [as_ (by decide) (by omega) (by omega), Option.bind_some, nI_1]
        obtain ⟨xs, e, f1, f2, f3⟩ := ih (k + 1) (ud A 44 ((A 44).set (288 + k) z)) (hS.ud List.length_set) (by omega) (by omega)
        rw [ud_ud] at e
        rw [ud_n (show (46 : Nat) ≠ 44 by decide)] at f2
        rw [ud_s] at f3
        refine ⟨xs, e, f1, ?_, ?_⟩
        · intro j q1 q2
          by_cases q : j = k
          · subst q
            rw [f3 _ (by omega), List.getElem?_set_self (by omega), hz]
          · exact f2 j (by omega) q2
        · intro j hj
          rw [f3 j (by omega), List.getElem?_set_ne (by omega)]
      conv => enter [1, xs, 1, 1]; unfold b_Model_readCodes_149 b_Model_readCodes_185
      rw [if_neg (show ¬ (32 : Int32) ≤ nI k from nI_ge (b := 32) hlt (by decide))]
      simp only [wg_M, Option.bind_some]
      rw [show (288 : Int32) = nI 288 from rfl, nI_add]
      by_cases c1 : k < n2
      · have hg : aget (YW J A s Q) 46 (nI n1 + nI k) = some (A 46)[n1 + k] := by
          rw [nI_add]
          exact ag_ (by decide) (by omega) (List.getElem?_eq_getElem (by omega))
        rw [if_neg (nI_ge c1 (by omega)), hg, Option.bind_some]
        exact go _ (by rw [if_pos c1]; exact List.getElem?_eq_getElem (by omega))
      · rw [if_pos (nI_le (by omega) (by omega))]
        exact go _ (by rw [if_neg c1])
    · have ek : k = 32 := by omega
      subst ek
      refine ⟨A 44, ?_, h44, fun j q1 q2 => by omega, fun j _ => rfl⟩
      rw [ud_id rfl]
      unfold b_Model_readCodes_149
      rw [show (nI 32 : Int32) = 32 from rfl, if_pos (by decide), if_pos (by decide)]
/-- both rows of lengths taken over -/
theorem m_108l {n1 n2 : Nat} (hF : 20000 ≤ F) (h0 : n1 ≤ 288) (h1 : n1 + n2 ≤ 320) (h2 : n2 ≤ 32) {K : Nat → Int32 → Int32 → Int32 → zW → Option (Unit × zW)} : ∀ (m k : Nat) (A : yA), Sh A → k ≤ 288 → 288 - k < m → ∃ xs, l_Model_readCodes_108 F m 39 (nI n1) (nI n2) (nI k) (YW J A s Q) = b_Model_readCodes_149 F K 39 0 0 32 (YW J (ud A 44 xs) s Q) ∧ xs.length = 339 ∧ (∀ j, k ≤ j → j < 288 → xs[j]? = if j < n1 then (A 46)[j]? else some 0) ∧ (∀ j, j < 32 → xs[288 + j]? = if j < n2 then (A 46)[n1 + j]? else some 0) ∧ ∀ j, j < k → xs[j]? = (A 44)[j]? := by
  intro m
  induction m with
  | zero => intro k A _ _ h; omega
  | succ m ih =>
    intro k A hS hk hm
    have h44 : (A 44).length = 339 := hS 44
    have h46 : (A 46).length = 320 := hS 46
    show ∃ xs, b_Model_readCodes_108 F (l_Model_readCodes_108 F m) 39 (nI n1) (nI n2) (nI k) (YW J A s Q) = _ ∧ _
    unfold b_Model_readCodes_108 b_Model_readCodes_139
    by_cases hlt : k < 288
    · have go : ∀ z : Int32, (if k < n1 then (A 46)[k]? else some 0) = some z → ∃ xs, ((aset (YW J A s Q) 44 (nI k) z).bind fun w185 => l_Model_readCodes_108 F m 39 (nI n1) (nI n2) (nI k + 1) w185) = b_Model_readCodes_149 F K 39 0 0 32 (YW J (ud A 44 xs) s Q) ∧ xs.length = 339 ∧ (∀ j, k ≤ j → j < 288 → xs[j]? = if j < n1 then (A 46)[j]? else some 0) ∧ (∀ j, j < 32 → xs[288 + j]? = if j < n2 then (A 46)[n1 + j]? else some 0) ∧ ∀ j, j < k → xs[j]? = (A 44)[j]? := by
        intro z hz
        rw [as_ (by decide) (by omega) (by omega), Option.bind_some, nI_1]
        obtain ⟨xs, e, f1, f2, f3, f4⟩ := ih (k + 1) (ud A 44 ((A 44).set k z)) (hS.ud List.length_set) (by omega) (by omega)
        rw [ud_ud] at e
        rw [ud_n (show (46 : Nat) ≠ 44 by decide)] at f2 f3
        rw [ud_s] at f4
        refine ⟨xs, e, f1, ?_, f3, ?_⟩
        · intro j q1 q2
          by_cases q : j = k
          · subst q
            rw [f4 _ (by omega), List.getElem?_set_self (by omega), hz]
          · exact f2 j (by omega) q2
        · intro j hj
          rw [f4 j (by omega), List.getElem?_set_ne (by omega)]
      rw [if_neg (show ¬ (288 : Int32) ≤ nI k from nI_ge (b := 288) hlt (by decide))]
      simp only [wg_M, Option.bind_some]
      by_cases c1 : k < n1
      · have hg : aget (YW J A s Q) 46 (nI k) = some (A 46)[k] := ag_ (by decide) (by omega) (List.getElem?_eq_getElem (by omega))
        rw [if_neg (nI_ge c1 (by omega)), hg, Option.bind_some]
        exact go _ (by rw [if_pos c1]; exact List.getElem?_eq_getElem (by omega))
      · rw [if_pos (nI_le (by omega) (by omega))]
        exact go _ (by rw [if_neg c1])
    · have ek : k = 288 := by omega
      subst ek
      rw [if_pos (by decide)]
      obtain ⟨xs, e, f1, f2, f3⟩ := m_149l (F := F) (J := J) (s := s) (Q := Q) (n1 := n1) (n2 := n2) h1 h2 (K := K) F 0 A hS (by decide) (by omega)
      exact ⟨xs, e, f1, fun j q1 q2 => by omega, fun j hj => f2 j (Nat.zero_le _) hj, fun j hj => f3 j (by omega)⟩
theorem m_29b (hF : 20000 ≤ F) {x y z : Int32} : ∀ (m i : Nat) (A : yA), Sh A → A 47 = mOrd → J 39 11 = 1 → i ≤ 19 → 19 - i < m → ∃ w', l_Model_readCodes_29 F m 39 x y z (nI i) (YW J A s Q) = some ((), w') ∧ mB J A s Q w' := by
  intro m
  induction m with
  | zero => intro i A _ _ _ _ h; omega
  | succ m ih =>
    intro i A hS hO hb hi hm
    have h44 : (A 44).length = 339 := hS 44
    show ∃ w', b_Model_readCodes_29 F (l_Model_readCodes_29 F m) 39 x y z (nI i) (YW J A s Q) = _ ∧ _
    unfold b_Model_readCodes_29 b_Model_readCodes_66 b_Model_readCodes_92
    by_cases hlt : i < 19
    · have ho : ordN.getD i 0 < 19 := (ord_lt ⟨i, hlt⟩).1
      have hg : aget (YW J A s Q) 47 (nI i) = some (nI (ordN.getD i 0)) := ag_ (by decide) (by omega) (by rw [hO]; exact mord_get ⟨i, hlt⟩)
      rw [if_neg (show ¬ (19 : Int32) ≤ nI i from nI_ge (b := 19) hlt (by decide))]
      simp only [wg_M, Option.bind_some, hg]
      have go : ∀ v : Int32, ∃ w', ((aset (YW J A s Q) 44 ((320 : Int32) + nI (ordN.getD i 0)) v).bind fun w66 => l_Model_readCodes_29 F m 39 x y z (nI i + 1) w66) = some ((), w') ∧ mB J A s Q w' := by
        intro v
        rw [show (320 : Int32) = nI 320 from rfl, nI_add, as_ (by decide) (by omega) (by omega), Option.bind_some, nI_1]
        have hmA := mA.ud (A := A) (k := 44) (xs := (A 44).set (320 + ordN.getD i 0) v) hS (by decide) List.length_set
        obtain ⟨w', q1, q2⟩ := ih (i + 1) (ud A 44 ((A 44).set (320 + ordN.getD i 0) v)) hmA.1 (by rw [ud_n (by decide)]; exact hO) hb (by omega) (by omega)
        exact ⟨w', q1, mB.mA hmA q2⟩
      by_cases c1 : z ≤ nI i
      · rw [if_pos c1]
        exact go 0
      · rw [if_neg c1]
        simp only [wo_M, Option.bind_some]
        obtain ⟨v', e⟩ := m_bits_bad (F := F) (A := A) (s := s) (Q := Q) hF hb (n := 3) (by decide)
        rw [show f_Model_bits F 39 3 (YW J A s Q) = _ from e, Option.bind_some]
        exact go v'
    · have ei : i = 19 := by omega
      subst ei
      rw [if_pos (by decide)]
      simp only [wg_M, wp_M, Option.bind_some]
      rw [hb, if_neg (show ¬ (1 : Int32) = 0 by decide), pj_id hb]
      exact ⟨_, rfl, J, A, rfl, mfr.rf hS, hb⟩
theorem m_92w (hS : Sh A) (hO : O.length ≤ 400) : ∃ w', b_Model_readCodes_92 F 39 (mw J A s Q p O) = some ((), w') ∧ mB J A s Q w' := by
  obtain ⟨w', q1, q2⟩ := mw_p1B (J := J) (s := s) (Q := Q) (p := p) (O := O) hS hO
  unfold b_Model_readCodes_92
  rw [q1, Option.bind_some]
  exact ⟨w', rfl, q2⟩
/-- readCodes, behind the three numbers -/
theorem m_rc_29 {na nb t p3 : Nat} (hF : 20000 ≤ F) (hO : O.length ≤ 200) (hna : na < 32) (hnb : nb < 32) (ht : t < 16) : ∀ (m i : Nat) (A : yA), Sh A → A 47 = mOrd → Srm J A C → i ≤ 19 → 19 - i < m → p3 + 3 * (min i (t + 4)) ≤ 8 * C.length → (∀ j, j < i → (A 44)[320 + ordN.getD j 0]? = some (nI (vvS C p3 t j))) → (∀ l1 l2 q, restS C na nb t p3 = some (l1, l2, q) → ∃ A2, l_Model_readCodes_29 F m 39 (nI (257 + na)) (nI (1 + nb)) (nI (4 + t)) (nI i) (mw J A s Q (p3 + 3 * (min i (t + 4))) O) = some ((), mw J A2 s Q q O) ∧ mA A A2 ∧ WDt A2 0 l1 ∧ WDt A2 288 l2) ∧ (restS C na nb t p3 = none → ∃ w', l_Model_readCodes_29 F m 39 (nI (257 + na)) (nI (1 + nb)) (nI (4 + t)) (nI i) (mw J A s Q (p3 + 3 * (min i (t + 4))) O) = some ((), w') ∧ mB J A s Q w') := by
  intro m
  induction m with
  | zero => intro i A _ _ _ _ h; omega
  | succ m ih =>
    intro i A hS h47 hsrc hi hm hp hv
    have h44 : (A 44).length = 339 := hS 44
    have ef : l_Model_readCodes_29 F (m + 1) 39 (nI (257 + na)) (nI (1 + nb)) (nI (4 + t)) (nI i) (mw J A s Q (p3 + 3 * (min i (t + 4))) O) = b_Model_readCodes_29 F (l_Model_readCodes_29 F m) 39 (nI (257 + na)) (nI (1 + nb)) (nI (4 + t)) (nI i) (mw J A s Q (p3 + 3 * (min i (t + 4))) O) := rfl
    rw [ef]
    unfold b_Model_readCodes_29 b_Model_readCodes_66
    by_cases hlt : i < 19
    · have ho : ordN.getD i 0 < 19 ∧ posN.getD (ordN.getD i 0) 0 = i := ord_lt ⟨i, hlt⟩
      have hg : ∀ pp, aget (mw J A s Q pp O) 47 (nI i) = some (nI (ordN.getD i 0)) := fun pp => ag_ (by decide) (by omega) (by rw [ud_n (by decide), h47]; exact mord_get ⟨i, hlt⟩)
      rw [if_neg (show ¬ (19 : Int32) ≤ nI i from nI_ge (b := 19) hlt (by decide)), show getR (mw J A s Q (p3 + 3 * (min i (t + 4))) O) 39 9 12 = some 44 from rfl, Option.bind_some, show getR (mw J A s Q (p3 + 3 * (min i (t + 4))) O) 39 9 15 = some 47 from rfl, Option.bind_some, hg, Option.bind_some]
      have step : ∀ p', p' = p3 + 3 * (min (i + 1) (t + 4)) → p' ≤ 8 * C.length → (∀ l1 l2 q, restS C na nb t p3 = some (l1, l2, q) → ∃ A2, ((aset (mw J A s Q p' O) 44 ((320 : Int32) + nI (ordN.getD i 0)) (nI (vvS C p3 t i))).bind fun w66 => l_Model_readCodes_29 F m 39 (nI (257 + na)) (nI (1 + nb)) (nI (4 + t)) (nI i + 1) w66) = some ((), mw J A2 s Q q O) ∧ mA A A2 ∧ WDt A2 0 l1 ∧ WDt A2 288 l2) ∧ (restS C na nb t p3 = none → ∃ w', ((aset (mw J A s Q p' O) 44 ((320 : Int32) + nI (ordN.getD i 0)) (nI (vvS C p3 t i))).bind fun w66 => l_Model_readCodes_29 F m 39 (nI (257 + na)) (nI (1 + nb)) (nI (4 + t)) (nI i + 1) w66) = some ((), w') ∧ mB J A s Q w') := by
        intro p' ep hp'
        subst ep
        rw [show (320 : Int32) = nI 320 from rfl, nI_add, mw_44 (by omega) hS, Option.bind_some, nI_1]
        have hmA := mA.ud (A := A) (k := 44) (xs := (A 44).set (320 + ordN.getD i 0) (nI (vvS C p3 t i))) hS (by decide) List.length_set
        have := ih (i + 1) (ud A 44 ((A 44).set (320 + ordN.getD i 0) (nI (vvS C p3 t i)))) hmA.1 (by rw [ud_n (by decide)]; exact h47) (hmA.src hsrc) (by omega) (by omega) hp' (by
          intro j hj
          rw [ud_s]
          by_cases q : j = i
          · subst q; rw [List.getElem?_set_self (by omega)]
          · rw [List.getElem?_set_ne]
            · exact hv j (by omega)
            · intro z
              have z2 : ordN.getD i 0 = ordN.getD j 0 := by omega
              have hj2 : ordN.getD j 0 < 19 ∧ posN.getD (ordN.getD j 0) 0 = j := ord_lt ⟨j, by omega⟩
              have e1 := ho.2
              have e2 := hj2.2
              rw [← z2, e1] at e2
              exact q e2.symm)
        refine ⟨?_, fun z => ?_⟩
        · intro l1 l2 q z
          obtain ⟨A2, q1, q2, q3⟩ := this.1 l1 l2 q z
          exact ⟨A2, q1, hmA.tr q2, q3⟩
        · obtain ⟨w', q1, q2⟩ := this.2 z
          exact ⟨w', q1, mB.mA hmA q2⟩
      by_cases c1 : i < t + 4
      · rw [if_neg (nI_ge (show i < 4 + t by omega) (by omega)), mw_o]
        have hb := mw_bits (F := F) (s := s) (Q := Q) (O := O) (n := 3) (p := p3 + 3 * (min i (t + 4))) hF hsrc hS (by omega) (by decide) hp
        rw [show (nI 3 : Int32) = 3 from rfl] at hb
        have emin : min i (t + 4) = i := by omega
        have emin2 : min (i + 1) (t + 4) = i + 1 := by omega
        by_cases c2 : p3 + 3 * (min i (t + 4)) + 3 ≤ 8 * C.length
        · have et : tkS C (p3 + 3 * (min i (t + 4))) 3 = some (bvS C (p3 + 3 * (min i (t + 4))) 3, p3 + 3 * (min i (t + 4)) + 3) := by unfold tkS; rw [if_pos c2]
          rw [hb.1 _ _ et, Option.bind_some]
          simp only []
          have ev : vvS C p3 t i = bvS C (p3 + 3 * (min i (t + 4))) 3 := by unfold vvS; rw [if_pos c1, emin]
          rw [← ev]
          exact step _ (by omega) c2
        · have et : tkS C (p3 + 3 * (min i (t + 4))) 3 = none := by unfold tkS; rw [if_neg c2]
          have hno : restS C na nb t p3 = none := by unfold restS; rw [if_neg (by omega)]
          rw [hno]
          refine ⟨fun l1 l2 q e => (by cases e), fun _ => ?_⟩
          obtain ⟨v', w', f1, f2⟩ := hb.2 et
          rw [f1, Option.bind_some]
          obtain ⟨J', A', rfl, g1, g2⟩ := f2
          have h44' : (A' 44).length = 339 := g1.1 44
          simp only []
          rw [show (320 : Int32) = nI 320 from rfl, nI_add, as_ (by decide) (by omega) (by omega), Option.bind_some, nI_1]
          have hmA := mA.ud (A := A') (k := 44) (xs := (A' 44).set (320 + ordN.getD i 0) v') g1.1 (by decide) List.length_set
          obtain ⟨w', q1, q2⟩ := m_29b (F := F) (J := J') (s := s) (Q := Q) (x := nI (257 + na)) (y := nI (1 + nb)) (z := nI (4 + t)) hF m (i + 1) (ud A' 44 ((A' 44).set (320 + ordN.getD i 0) v')) hmA.1 (by rw [ud_n (by decide), g1.2.2.2 47 (by omega)]; exact h47) g2 (by omega) (by omega)
          exact ⟨w', q1, (mB.mA hmA q2).tr g1⟩
      · rw [if_pos (nI_le (show 4 + t ≤ i by omega) (by omega))]
        have ev : (0 : Int32) = nI (vvS C p3 t i) := by unfold vvS; rw [if_neg c1]; rfl
        have emin : min i (t + 4) = min (i + 1) (t + 4) := by omega
        rw [ev]
        exact step _ (by omega) hp
    · have ei : i = 19 := by omega
      subst ei
      have emin : min 19 (t + 4) = t + 4 := by omega
      rw [emin] at hp ⊢
      rw [if_pos (by decide)]
      simp only [mw_g, Option.bind_some]
      rw [if_pos trivial, mw_o]
      have hcl : hL44 A 320 (clS C p3 t) := by
        intro k hk
        rw [clS_len] at hk
        have ho : ordN.getD (posN.getD k 0) 0 = k ∧ posN.getD k 0 < 19 := ord_pos ⟨k, hk⟩
        have := hv (posN.getD k 0) ho.2
        rw [ho.1] at this
        rw [this, clS_g hk]
      obtain ⟨ws, e1, f1, f2, f3⟩ := mw_words (F := F) (J := J) (s := s) (Q := Q) (p := p3 + 3 * (t + 4)) (O := O) (fr := 320) (ls := clS C p3 t) hF hS (by omega) hcl clS_15 (by rw [clS_len]; decide)
      rw [clS_len, show (nI 320 : Int32) = 320 from rfl, show (nI 19 : Int32) = 19 from rfl] at e1
      rw [e1, Option.bind_some]
      have h45 : (A 45).length = 339 := hS 45
      have hmA := mA.ud (A := A) (k := 45) (xs := ws) hS (by decide) (by omega)
      simp only []
      unfold restS
      by_cases c0 : kS (clS C p3 t) 15 ≤ 32768
      · rw [if_pos c0, if_neg (show ¬ (1 : Int32) = 0 by decide), if_pos ⟨hp, c0⟩, mw_o, nI_add]
        have hW : WDt (ud A 45 ws) 320 (clS C p3 t) := ⟨fun k hk => by rw [ud_n (by decide)]; exact hcl k hk, fun j hj h0 => by rw [ud_s]; exact f2 j hj h0⟩
        have en : 257 + na + (1 + nb) = na + 257 + (nb + 1) := by omega
        have hrr := m_rr (F := F) (J := J) (s := s) (Q := Q) (O := O) (C := C) (cl := clS C p3 t) (n := na + 257 + (nb + 1)) hF hO (by omega) clS_len clS_15 400 F (p3 + 3 * (t + 4)) (ud A 45 ws) [] hmA.1 (hmA.src hsrc) hW (fun j hj => by cases hj) (Nat.zero_le _) (by rw [List.length_nil]; omega) (by rw [List.length_nil]; omega) hp (fun l hl => by cases hl)
        rw [en]
        unfold f_Model_readRow b_Model_readRow_0
        rw [show (nI ([] : List Nat).length : Int32) = 0 from rfl] at hrr
        cases hR : rlS (clS C p3 t) C (na + 257 + (nb + 1)) 400 (p3 + 3 * (t + 4)) [] with
        | none =>
          refine ⟨fun l1 l2 q e => (by cases e), fun _ => ?_⟩
          obtain ⟨w', z1, z2⟩ := hrr.2 hR
          rw [z1, Option.bind_some]
          obtain ⟨J', A', rfl, g1, g2⟩ := z2
          simp only []
          obtain ⟨xs, e, y1, -⟩ := m_108l (F := F) (J := J') (s := s) (Q := Q) (n1 := 257 + na) (n2 := 1 + nb) hF (by omega) (by omega) (by omega) (K := fun _ _ _ _ _ => none) F 0 A' g1.1 (by decide) (by omega)
          have h44' : (A' 44).length = 339 := g1.1 44
          have hmA' := mA.ud (A := A') (k := 44) (xs := xs) g1.1 (by decide) (by omega)
          obtain ⟨w2, y2, y3⟩ := m_149b (F := F) (J := J') (A := ud A' 44 xs) (s := s) (Q := Q) (K := fun _ _ _ _ _ => none) (x := 0) (y := 0) hF hmA'.1 g2
          rw [show (0 : Int32) = nI 0 from rfl, e, y2]
          exact ⟨w2, rfl, mB.mA hmA ((mB.mA hmA' y3).tr g1)⟩
        | some x =>
          obtain ⟨D, p4⟩ := x
          obtain ⟨rs, z1, z2, z3⟩ := hrr.1 D p4 hR
          have hok := rlS_ok hR (Nat.zero_le _) hp (fun l hl => by cases hl)
          rw [z1, Option.bind_some]
          simp only []
          have h46 : ((ud A 45 ws) 46).length = 320 := hmA.1 46
          have hmA2 := hmA.tr (mA.ud (A := ud A 45 ws) (k := 46) (xs := rs) hmA.1 (by decide) (by omega))
          obtain ⟨xs, e, y1, y2, y3, -⟩ := m_108l (F := F) (J := pj (pj (pj J 39 6 (nI O.length)) 39 10 (nI p4)) 39 11 0) (s := s) (Q := Q) (n1 := 257 + na) (n2 := 1 + nb) hF (by omega) (by omega) (by omega) (K := fun _ _ _ _ _ => none) F 0 (ud (ud (ud A 45 ws) 46 rs) 42 (wr ((ud (ud A 45 ws) 46 rs) 42) 0 O)) (mw_S hmA2.1 (by omega)) (by decide) (by omega)
          have eq : YW (pj (pj (pj J 39 6 (nI O.length)) 39 10 (nI p4)) 39 11 0) (ud (ud (ud (ud A 45 ws) 46 rs) 42 (wr ((ud (ud A 45 ws) 46 rs) 42) 0 O)) 44 xs) s Q = mw J (ud (ud (ud A 45 ws) 46 rs) 44 xs) s Q p4 O := by
            unfold mw mu
            rw [ud_n (show (42 : Nat) ≠ 44 by decide), ud_comm (show (42 : Nat) ≠ 44 by decide)]
          rw [eq] at e
          rw [ud_n (show (46 : Nat) ≠ 42 by decide), ud_s] at y2 y3
          have e' : l_Model_readCodes_108 F F 39 (nI (257 + na)) (nI (1 + nb)) 0 (mw J (ud (ud A 45 ws) 46 rs) s Q p4 O) = _ := e
          rw [e']
          have h44' : ((ud (ud A 45 ws) 46 rs) 44).length = 339 := hmA2.1 44
          have hmA3 := hmA2.tr (mA.ud (A := ud (ud A 45 ws) 46 rs) (k := 44) (xs := xs) hmA2.1 (by decide) (by omega))
          have p1len : (pad 288 (D.take (na + 257))).length = 288 := pad_len (by rw [List.length_take]; omega)
          have p2len : (pad 32 (D.drop (na + 257))).length = 32 := pad_len (by rw [List.length_drop]; omega)
          have hL1 : hL44 (ud (ud (ud A 45 ws) 46 rs) 44 xs) 0 (pad 288 (D.take (na + 257))) := by
            intro j hj
            rw [p1len] at hj
            rw [ud_s, Nat.zero_add, y2 j (Nat.zero_le _) hj, pad_g, List.length_take]
            by_cases z : j < 257 + na
            · rw [if_pos z, if_pos (by omega), z3 j (by omega), List.getD_eq_getElem?_getD, List.getD_eq_getElem?_getD, List.getElem?_take, if_pos (by omega)]
            · rw [if_neg z, if_neg (by omega)]
              rfl
          have hL2 : hL44 (ud (ud (ud A 45 ws) 46 rs) 44 xs) 288 (pad 32 (D.drop (na + 257))) := by
            intro j hj
            rw [p2len] at hj
            rw [ud_s, y3 j hj, pad_g, List.length_drop]
            by_cases z : j < 1 + nb
            · rw [if_pos z, if_pos (by omega), z3 (257 + na + j) (by omega), List.getD_eq_getElem?_getD, List.getD_eq_getElem?_getD, List.getElem?_drop, Nat.add_comm 257 na]
            · rw [if_neg z, if_neg (by omega)]
              rfl
          have hfin := m_149e (F := F) (J := J) (A := ud (ud (ud A 45 ws) 46 rs) 44 xs) (s := s) (Q := Q) (p := p4) (O := O) (K := fun _ _ _ _ _ => none) (x := 0) (y := 0) hF hmA3.1 hL1 hL2 (pad_15 (fun l hl => hok.2.2.2 l (List.mem_of_mem_take hl))) (pad_15 (fun l hl => hok.2.2.2 l (List.mem_of_mem_drop hl))) p1len p2len (by omega)
          by_cases c5 : kS (pad 288 (D.take (na + 257))) 15 ≤ 32768 ∧ kS (pad 32 (D.drop (na + 257))) 15 ≤ 32768
          · rw [if_pos c5]
            obtain ⟨A3, w1, w2, w3, w4⟩ := hfin.1 c5
            exact ⟨fun l1 l2 q e => (by cases e; exact ⟨A3, w1, hmA3.tr w2, w3, w4⟩), fun e => (by cases e)⟩
          · rw [if_neg c5]
            obtain ⟨w', w1, w2⟩ := hfin.2 c5
            exact ⟨fun l1 l2 q e => (by cases e), fun _ => ⟨w', w1, mB.mA hmA3 w2⟩⟩
      · rw [if_neg c0, if_pos rfl, if_neg (fun z => c0 z.2)]
        refine ⟨fun l1 l2 q e => (by cases e), fun _ => ?_⟩
        obtain ⟨w', q1, q2⟩ := m_92w (F := F) (J := J) (A := ud A 45 ws) (s := s) (Q := Q) (p := p3 + 3 * (t + 4)) (O := O) hmA.1 (by omega)
        exact ⟨w', q1, mB.mA hmA q2⟩
/-- readCodes -/
theorem m_readCodes (hF : 20000 ≤ F) (hS : Sh A) (h47 : A 47 = mOrd) (hsrc : Srm J A C) (hO : O.length ≤ 200) (hp : p ≤ 8 * C.length) : (∀ l1 l2 q, rcS C p = some (l1, l2, q) → ∃ A2, f_Model_readCodes F 39 (mw J A s Q p O) = some ((), mw J A2 s Q q O) ∧ mA A A2 ∧ WDt A2 0 l1 ∧ WDt A2 288 l2) ∧ (rcS C p = none → ∃ w', f_Model_readCodes F 39 (mw J A s Q p O) = some ((), w') ∧ mB J A s Q w') := by
  have n5 : ∀ pp, pp ≤ 8 * C.length → (∀ v q, tkS C pp 5 = some (v, q) → f_Model_bits F 39 5 (mw J A s Q pp O) = some (nI v, mw J A s Q q O)) ∧ (tkS C pp 5 = none → ∃ v' w', f_Model_bits F 39 5 (mw J A s Q pp O) = some (v', w') ∧ mB J A s Q w') := fun pp hpp => mw_bits (n := 5) hF hsrc hS (by omega) (by decide) hpp
  have n4 : ∀ pp, pp ≤ 8 * C.length → (∀ v q, tkS C pp 4 = some (v, q) → f_Model_bits F 39 4 (mw J A s Q pp O) = some (nI v, mw J A s Q q O)) ∧ (tkS C pp 4 = none → ∃ v' w', f_Model_bits F 39 4 (mw J A s Q pp O) = some (v', w') ∧ mB J A s Q w') := fun pp hpp => mw_bits (n := 4) hF hsrc hS (by omega) (by decide) hpp
  have bad29 : ∀ (J' : yJ) (A' : yA) (x y z : Int32), mfr J A J' A' → J' 39 11 = 1 → ∃ w', l_Model_readCodes_29 F F 39 x y z 0 (YW J' A' s Q) = some ((), w') ∧ mB J A s Q w' := by
    intro J' A' x y z g1 g2
    obtain ⟨w', q1, q2⟩ := m_29b (F := F) (J := J') (s := s) (Q := Q) (x := x) (y := y) (z := z) hF F 0 A' g1.1 (by rw [g1.2.2.2 47 (by omega)]; exact h47) g2 (by decide) (by omega)
    exact ⟨w', q1, q2.tr g1⟩
  have b5 : ∀ (J' : yJ) (A' : yA), J' 39 11 = 1 → ∃ v, f_Model_bits F 39 5 (YW J' A' s Q) = some (v, YW J' A' s Q) := fun J' A' h' => m_bits_bad (n := 5) hF h' (by decide)
  have b4 : ∀ (J' : yJ) (A' : yA), J' 39 11 = 1 → ∃ v, f_Model_bits F 39 4 (YW J' A' s Q) = some (v, YW J' A' s Q) := fun J' A' h' => m_bits_bad (n := 4) hF h' (by decide)
  unfold f_Model_readCodes b_Model_readCodes_0 rcS
  rw [mw_o]
  cases h1 : tkS C p 5 with
  | none =>
    obtain ⟨v', w', f1, f2⟩ := (n5 p hp).2 h1
    refine ⟨fun l1 l2 q e => (by cases e), fun _ => ?_⟩
    obtain ⟨J', A', rfl, g1, g2⟩ := f2
    obtain ⟨v2, e2⟩ := b5 J' A' g2
    obtain ⟨v3, e3⟩ := b4 J' A' g2
    rw [f1, Option.bind_some]
    simp only [wo_M, Option.bind_some, e2, e3]
    exact bad29 J' A' _ _ _ g1 g2
  | some x1 =>
    obtain ⟨na, p1⟩ := x1
    have t1 := tkS_lt h1
    rw [(n5 p hp).1 na p1 h1, Option.bind_some]
    simp only [mw_o]
    cases h2 : tkS C p1 5 with
    | none =>
      obtain ⟨v', w', f1, f2⟩ := (n5 p1 t1.2.2).2 h2
      refine ⟨fun l1 l2 q e => (by cases e), fun _ => ?_⟩
      obtain ⟨J', A', rfl, g1, g2⟩ := f2
      obtain ⟨v3, e3⟩ := b4 J' A' g2
      rw [f1, Option.bind_some]
      simp only [wo_M, Option.bind_some, e3]
      exact bad29 J' A' _ _ _ g1 g2
    | some x2 =>
      obtain ⟨nb, p2⟩ := x2
      have t2 := tkS_lt h2
      rw [(n5 p1 t1.2.2).1 nb p2 h2, Option.bind_some]
      simp only [mw_o]
      cases h3 : tkS C p2 4 with
      | none =>
        obtain ⟨v', w', f1, f2⟩ := (n4 p2 t2.2.2).2 h3
        refine ⟨fun l1 l2 q e => (by cases e), fun _ => ?_⟩
        obtain ⟨J', A', rfl, g1, g2⟩ := f2
        rw [f1, Option.bind_some]
        exact bad29 J' A' _ _ _ g1 g2
      | some x3 =>
        obtain ⟨t, p3⟩ := x3
        have t3 := tkS_lt h3
        rw [(n4 p2 t2.2.2).1 t p3 h3, Option.bind_some]
        simp only []
        have := m_rc_29 (F := F) (J := J) (s := s) (Q := Q) (O := O) (C := C) (p3 := p3) hF hO t1.1 t2.1 t3.1 F 0 A hS h47 hsrc (by decide) (by omega) (by rw [Nat.zero_min]; omega) (fun j hj => by omega)
        rw [Nat.zero_min, Nat.mul_zero, Nat.add_zero] at this
        rw [show (257 : Int32) = nI 257 from rfl, nI_add, show (1 : Int32) = nI 1 from rfl, nI_add, show (4 : Int32) = nI 4 from rfl, nI_add]
        exact this
end Md2
