/-! pack; names. -/
theorem c_packs {J : yJ} {A : yA} {s : Nat} {x : Int64} {Q : zW} {B L : List Int32} {wd : Int32} {F : Nat} (hF : 20000 ≤ F) (hS : Sh A) (hC : CI J A B L wd) (hG : GI B L wd) :
    ((pkS B).length ≤ 200 → CO J A (f_Law_pack F 0 60 (YW J A s (.inr (.inl [x]) :: Q))) 0 (nI (pkS B).length) (pkS B) L wd) ∧
    (¬ (pkS B).length ≤ 200 → CO J A (f_Law_pack F 0 60 (YW J A s (.inr (.inl [x]) :: Q))) 1 0 B L wd) := by
  have hB := hG.2.1
  have hpl := pkS_len hB
  obtain ⟨J1, A1, e1, S1, g1, g2, o1, a1⟩ := c_packAll (F := F) (J := J) (A := A) (s := s) (Q := .inr (.inl [x]) :: Q) hF hS hC.1 hC.2.1 hB hG.2.2.2.1
  have C1 : CI J1 A1 B L wd := by
    obtain ⟨c1, c2, c3, c4, c5⟩ := hC
    refine ⟨?_, ?_, ?_, ?_, ?_⟩
    · rw [o1 1 (by decide) (by decide)]; exact c1
    · rw [a1 2 (by decide)]; exact c2
    · rw [o1 3 (by decide) (by decide)]; exact c3
    · rw [a1 4 (by decide)]; exact c4
    · rw [o1 35 (by decide) (by decide)]; exact c5
  have j1 : J1 39 = J 39 := o1 39 (by decide) (by decide)
  refine ⟨?_, ?_⟩
  · intro hle
    have hl : (A1 2).length = 200 := S1 2
    have e2 := W_become (F := F) (J := J1) (A := A1) (s := s) (Q := .inr (.inl [x]) :: Q) r12 r56 (by decide) S1 g1 g2 hle
    obtain ⟨c1, c2, c3, c4, c5⟩ := C1
    refine CO.mono (CO_ret (s' := s) (x := x) (Q' := Q) (J' := pj (pj J1 1 2 0) 1 1 (nI (pkS B).length)) (A' := ud A1 2 (wr (A1 2) 0 (pkS B))) (S1.ud (wr_len (by omega))) ⟨pj_s, ?_, ?_, ?_, ?_⟩ ?_ ?_) ?_
    · rw [ud_s]; exact wr0_take (by omega)
    · rw [pj_o (by decide), pj_o (by decide)]; exact c3
    · rw [ud_n (by decide)]; exact c4
    · rw [pj_o (by decide), pj_o (by decide)]; exact c5
    · rw [pj_row (by decide), pj_row (by decide)]; exact j1
    · intro j hj; rw [ud_n (by omega)]; exact a1 j (by omega)
    · unfold f_Law_pack b_Law_pack_0 f_Zip_pack b_Zip_pack_0
      simp only [wo_Z, wg_Z, wo_P, Option.bind_some, e1, wg_R, g1]
      rw [if_pos (show nI (pkS B).length ≤ (200 : Int32) from nI_le (b := 200) hle (by decide))]
      simp only [wo_R, wg_Z, Option.bind_some, e2, wg_R, pj_s]
  · intro hgt
    refine CO.mono (CO_thr (s' := s) (x := x) (Q' := Q) (c := .inr (.inr (.inr (11, [])))) S1 C1 j1 (fun j hj => a1 j (by omega)) (by decide)) ?_
    unfold f_Law_pack b_Law_pack_0 f_Zip_pack b_Zip_pack_0
    simp only [wo_Z, wg_Z, wo_P, Option.bind_some, e1, wg_R, g1]
    rw [if_neg (show ¬ nI (pkS B).length ≤ (200 : Int32) from nI_ge (a := 200) (by omega) (by omega))]
    simp only [Option.bind_some]
    rw [if_pos exc_at]
theorem m_packs {J : yJ} {A : yA} {s : Nat} {Q : zW} {B L : List Int32} {wd : Int32} {F : Nat} (hF : 20000 ≤ F) (hS : Sh A) (hM : MI J A B L wd) (hG : GI B L wd) :
    ((pkS B).length ≤ 200 → MO J A s Q (f_Model_pack F 39 (YW J A s Q)) 0 (nI (pkS B).length) (pkS B) L wd) ∧
    (¬ (pkS B).length ≤ 200 → MO J A s Q (f_Model_pack F 39 (YW J A s Q)) 1 0 B L wd) := by
  have hB := hG.2.1
  have hpl := pkS_len hB
  obtain ⟨J1, A1, e1, f1, g1, g2⟩ := m_packBuffer (F := F) (J := J) (A := A) (s := s) (Q := Q) hF hS hM.1 hM.2.1 hB hG.2.2.2.1
  have M1 := MI_fr hM f1
  refine ⟨?_, ?_⟩
  · intro hle
    obtain ⟨J2, A2, z1, z2, z3, z4, z5, z6⟩ := m_takeContent (F := F) (J := pj J1 39 0 0) (A := A1) (s := s) (Q := Q) (O := pkS B) hF f1.1 (MI_0 M1 0) (by rw [pj_k (by decide)]; exact g1) g2 hle
    refine ⟨J2, A2, nI (pkS B).length, ?_, z2, z3, by rw [z4, pj_s], fun _ => rfl, ?_, ?_⟩
    · unfold f_Model_pack b_Model_pack_0 b_Model_pack_20
      simp only [wo_M, Option.bind_some, e1, wg_M, g1]
      rw [if_pos (show nI (pkS B).length ≤ (200 : Int32) from nI_le (b := 200) hle (by decide))]
      simp only [wp_M, wg_M, wo_M, Option.bind_some]
      rw [pj_s, if_pos (by decide), z1, Option.bind_some]
    · intro o ho
      rw [z5 o ho, pj_row (by omega), f1.2.1 o (by omega)]
    · intro j hj
      rw [z6 j hj, f1.2.2.2 j (by omega)]
  · intro hgt
    refine ⟨pj J1 39 0 1, A1, 0, ?_, f1.1, MI_0 M1 1, pj_s, fun q => absurd q (by decide), ?_, ?_⟩
    · unfold f_Model_pack b_Model_pack_0 b_Model_pack_20
      simp only [wo_M, Option.bind_some, e1, wg_M, g1]
      rw [if_neg (show ¬ nI (pkS B).length ≤ (200 : Int32) from nI_ge (a := 200) (by omega) (by omega))]
      simp only [wp_M, wg_M, wo_M, Option.bind_some]
      rw [pj_s, if_neg (by decide)]
    · intro o ho
      rw [pj_row (by omega), f1.2.1 o (by omega)]
    · intro j hj
      rw [f1.2.2.2 j (by omega)]
theorem step_399 : StepAt b_Law_law_399 := by
  intro F sc K k w hF hl hk hI
  unfold b_Law_law_399
  refine call_step (fun w => f_Law_pack F 0 60 w) (fun w => f_Model_pack F 39 w) hI ?_
  intro J A s x Q B L wd hS hC hM hG
  have c := c_packs (s := s) (x := x) (Q := Q) hF hS hC hG
  by_cases h : (pkS B).length ≤ 200
  · exact ⟨0, nI (pkS B).length, pkS B, L, wd, GI_buf hG h (isB_pkS B), c.1 h, fun J1 A1 s1 Q1 S1 M1 => (m_packs hF S1 M1 hG).1 h⟩
  · exact ⟨1, 0, B, L, wd, hG, c.2 h, fun J1 A1 s1 Q1 S1 M1 => (m_packs hF S1 M1 hG).2 h⟩
/-! names told as numbers -/
def okL (n : Nat) : Nat → Nat → Bool
  | 0, _ => true
  | m + 1, k => (decide (33 ≤ n / 2 ^ (8 * k) % 256) && decide (n / 2 ^ (8 * k) % 256 ≤ 126)) && okL n m (k + 1)
def nbN (n : Nat) : Nat := if n < 256 then 1 else if n < 65536 then 2 else 3
/-- a name of n, and how many bytes it has -/
def isNam (y : Int32) (n : Nat) : Prop := y = nI n ∧ 1 ≤ n ∧ n ≤ 16777215 ∧ okL n (nbN n) 0 = true
section Nb
variable {F : Nat} {w : zW}
theorem nb_byte {n k : Nat} (hn : n ≤ 16777215) (hk : k < 4) : (nI n >>> (((8 : Int32) * nI k) &&& 31)) &&& (255 : Int32) = nI (n / 2 ^ (8 * k) % 256) := by
  rw [show (8 : Int32) = nI 8 from rfl, pk_mul, shrD (by omega) (by omega), pk_andN (m := (255 : Int32)) (by have := Nat.div_le_self n (2 ^ (8 * k)); omega) 8 (by decide)]
theorem c_nb_l {n nb : Nat} (hn : n ≤ 16777215) (hnb : nb ≤ 3) : ∀ (m k : Nat), k ≤ nb → nb - k < m → l_Zip_nameBytes_37 F m (nI n) (nI nb) (nI k) w = some (if okL n (nb - k) k then nI nb else 0, w) := by
  intro m
  induction m with
  | zero => intro k _ h; omega
  | succ m ih =>
    intro k hk hm
    show b_Zip_nameBytes_37 F (l_Zip_nameBytes_37 F m) (nI n) (nI nb) (nI k) w = _
    unfold b_Zip_nameBytes_37
    by_cases hlt : k < nb
    · have h256 : n / 2 ^ (8 * k) % 256 < 256 := Nat.mod_lt _ (by decide)
      rw [if_neg (nI_ge hlt (by omega)), nb_byte hn (by omega), isNm h256, Option.bind_some, show nb - k = (nb - (k + 1)) + 1 by omega]
      simp only []
      unfold okL
      by_cases c : 33 ≤ n / 2 ^ (8 * k) % 256 ∧ n / 2 ^ (8 * k) % 256 ≤ 126
      · rw [if_pos c, if_neg (show ¬ (1 : Int32) = 0 by decide), nI_1, ih (k + 1) (by omega) (by omega), decide_eq_true c.1, decide_eq_true c.2, Bool.true_and, Bool.true_and]
      · rw [if_neg c, if_pos (show (0 : Int32) = 0 from rfl)]
        have : (decide (33 ≤ n / 2 ^ (8 * k) % 256) && decide (n / 2 ^ (8 * k) % 256 ≤ 126)) = false := by
          rw [Bool.and_eq_false_iff]
          by_cases c1 : 33 ≤ n / 2 ^ (8 * k) % 256
          · exact Or.inr (decide_eq_false (fun q => c ⟨c1, q⟩))
          · exact Or.inl (decide_eq_false c1)
        rw [this, Bool.false_and]
        rfl
    · rw [if_pos (nI_le (by omega) (by omega)), show nb - k = 0 by omega]
      rfl
theorem nbN_le (n : Nat) : 1 ≤ nbN n ∧ nbN n ≤ 3 := by unfold nbN; split; omega; split <;> omega
theorem c_nb {n : Nat} (hF : 20000 ≤ F) (h1 : 1 ≤ n) (hn : n ≤ 16777215) : f_Zip_nameBytes F (nI n) w = some (if okL n (nbN n) 0 then nI (nbN n) else 0, w) := by
  unfold f_Zip_nameBytes b_Zip_nameBytes_0 b_Zip_nameBytes_34 nbN
  rw [if_neg (nI_nle (by omega) (by omega)), if_pos (show nI n ≤ (16777215 : Int32) from nI_le (b := 16777215) hn (by decide))]
  by_cases c1 : n < 256
  · rw [if_pos (show nI n ≤ (65535 : Int32) from nI_le (b := 65535) (by omega) (by decide)), if_pos (show nI n ≤ (255 : Int32) from nI_le (b := 255) (by omega) (by decide)), if_pos c1]
    exact c_nb_l (nb := 1) hn (by decide) F 0 (Nat.zero_le _) (by omega)
  · rw [if_neg c1]
    by_cases c2 : n < 65536
    · rw [if_pos (show nI n ≤ (65535 : Int32) from nI_le (b := 65535) (by omega) (by decide)), if_neg (show ¬ nI n ≤ (255 : Int32) from nI_ge (a := 255) (by omega) (by omega)), if_pos c2]
      exact c_nb_l (nb := 2) hn (by decide) F 0 (Nat.zero_le _) (by omega)
    · rw [if_neg (show ¬ nI n ≤ (65535 : Int32) from nI_ge (a := 65535) (by omega) (by omega)), if_neg c2]
      exact c_nb_l (nb := 3) hn (by decide) F 0 (Nat.zero_le _) (by omega)
theorem m_bo {n : Nat} (hn : n ≤ 16777215) : f_Model_bytesOf F (nI n) w = some (nI (nbN n), w) := by
  unfold f_Model_bytesOf b_Model_bytesOf_0 nbN
  by_cases c1 : n < 256
  · rw [if_neg (show ¬ (256 : Int32) ≤ nI n from nI_ge (b := 256) c1 (by decide)), if_pos c1]; rfl
  · rw [if_pos (show (256 : Int32) ≤ nI n from nI_le (a := 256) (by omega) (by omega)), if_neg c1]
    by_cases c2 : n < 65536
    · rw [if_neg (show ¬ (65536 : Int32) ≤ nI n from nI_ge (b := 65536) c2 (by decide)), if_pos c2]; rfl
    · rw [if_pos (show (65536 : Int32) ≤ nI n from nI_le (a := 65536) (by omega) (by omega)), if_neg c2]; rfl
theorem m_nm0 {y : Int32} {m : Nat} (hm : 0 < m) : l_Model_isName_12 F m y 0 0 w = some (0, w) := by
  obtain ⟨m, rfl⟩ : ∃ q, m = q + 1 := ⟨m - 1, by omega⟩
  show b_Model_isName_12 F (l_Model_isName_12 F m) y 0 0 w = _
  unfold b_Model_isName_12 b_Model_isName_51 f_Model_bytesOf b_Model_bytesOf_0
  by_cases c1 : (256 : Int32) ≤ y
  · rw [if_pos c1]
    by_cases c2 : (65536 : Int32) ≤ y
    · rw [if_pos c2, Option.bind_some]; rfl
    · rw [if_neg c2, Option.bind_some]; rfl
  · rw [if_neg c1, Option.bind_some]; rfl
theorem m_nm_l {n : Nat} (hn : n ≤ 16777215) : ∀ (m k : Nat) (g : Bool), k ≤ nbN n → nbN n - k < m → l_Model_isName_12 F m (nI n) (bI g) (nI k) w = some (bI (g && okL n (nbN n - k) k), w) := by
  have hnb := nbN_le n
  intro m
  induction m with
  | zero => intro k g _ h; omega
  | succ m ih =>
    intro k g hk hm
    show b_Model_isName_12 F (l_Model_isName_12 F m) (nI n) (bI g) (nI k) w = _
    unfold b_Model_isName_12 b_Model_isName_51
    rw [m_bo hn, Option.bind_some]
    simp only []
    have hg01 : bI g = 0 ∨ bI g = 1 := by cases g; exact Or.inl rfl; exact Or.inr rfl
    by_cases hlt : k < nbN n
    · rw [if_neg (nI_ge hlt (by omega))]
      cases g with
      | false =>
        rw [if_pos (show bI false = 0 from rfl), if_pos (show bI false = 0 ∨ bI false = 1 from Or.inl rfl), Bool.false_and]
      | true =>
        have h256 : n / 2 ^ (8 * k) % 256 < 256 := Nat.mod_lt _ (by decide)
        rw [if_neg (show ¬ bI true = 0 by decide), nb_byte hn (by omega), show f_Model_within F (nI (n / 2 ^ (8 * k) % 256)).toInt64 33 126 w = _ from wi F w (nI (n / 2 ^ (8 * k) % 256)) 33 126, Option.bind_some, show nbN n - k = (nbN n - (k + 1)) + 1 by omega]
        simp only []
        unfold okL
        rw [Bool.true_and, nI_1]
        by_cases c : 33 ≤ n / 2 ^ (8 * k) % 256 ∧ n / 2 ^ (8 * k) % 256 ≤ 126
        · rw [if_pos (show (33 : Int32) ≤ nI (n / 2 ^ (8 * k) % 256) ∧ nI (n / 2 ^ (8 * k) % 256) ≤ 126 from ⟨nI_le (a := 33) c.1 (by omega), nI_le (b := 126) c.2 (by decide)⟩), decide_eq_true c.1, decide_eq_true c.2, Bool.true_and]
          exact ih (k + 1) true (by omega) (by omega)
        · rw [if_neg (show ¬ ((33 : Int32) ≤ nI (n / 2 ^ (8 * k) % 256) ∧ nI (n / 2 ^ (8 * k) % 256) ≤ 126) from fun q => c ⟨(nI_leI (a := 33) (by decide) (by omega)).mp q.1, (nI_leI (b := 126) (by omega) (by decide)).mp q.2⟩)]
          have : (decide (33 ≤ n / 2 ^ (8 * k) % 256) && decide (n / 2 ^ (8 * k) % 256 ≤ 126)) = false := by
            rw [Bool.and_eq_false_iff]
            by_cases c1 : 33 ≤ n / 2 ^ (8 * k) % 256
            · exact Or.inr (decide_eq_false (fun q => c ⟨c1, q⟩))
            · exact Or.inl (decide_eq_false c1)
          rw [this, Bool.false_and]
          exact ih (k + 1) false (by omega) (by omega)
    · rw [if_pos (nI_le (by omega) (by omega)), if_pos hg01, show nbN n - k = 0 by omega]
      show _ = some (bI (g && true), w)
      rw [Bool.and_true]
/-- both say the same of a name -/
theorem nam_cases (y : Int32) : (∃ n, isNam y n) ∨ (∀ F w, 20000 ≤ F → f_Zip_nameBytes F y w = some (0, w) ∧ f_Model_isName F y w = some (0, w)) := by
  by_cases h : (1 : Int32) ≤ y ∧ y ≤ 16777215
  · obtain ⟨n, hn, rfl⟩ := nI_of (x := y) (fun q => absurd (Int32.lt_of_lt_of_le q (by decide : (0 : Int32) ≤ 1)) (Int32.not_lt.mpr h.1))
    have h1 : 1 ≤ n := (nI_leI (a := 1) (by decide) hn).mp h.1
    have h2 : n ≤ 16777215 := (nI_leI (b := 16777215) hn (by decide)).mp h.2
    cases hk : okL n (nbN n) 0 with
    | true => exact Or.inl ⟨n, rfl, h1, h2, hk⟩
    | false =>
      refine Or.inr (fun F w hF => ⟨?_, ?_⟩)
      · rw [c_nb hF h1 h2, hk]; rfl
      · unfold f_Model_isName b_Model_isName_0
        rw [show f_Model_within F (nI n).toInt64 1 16777215 w = _ from wi F w (nI n) 1 16777215, if_pos h, Option.bind_some]
        have := m_nm_l (F := F) (w := w) h2 F 0 true (Nat.zero_le _) (by have := nbN_le n; omega)
        rw [Nat.sub_zero, hk] at this
        exact this
  · refine Or.inr (fun F w hF => ⟨?_, ?_⟩)
    · unfold f_Zip_nameBytes b_Zip_nameBytes_0 b_Zip_nameBytes_10
      by_cases c1 : y ≤ 0
      · rw [if_pos c1]
      · rw [if_neg c1, if_neg (fun q => h ⟨?_, q⟩)]
        have := Int32.not_le.mp c1
        rw [Int32.le_iff_toInt_le]
        rw [Int32.lt_iff_toInt_lt] at this
        have e0 : (0 : Int32).toInt = 0 := rfl
        have e1 : (1 : Int32).toInt = 1 := rfl
        omega
    · unfold f_Model_isName b_Model_isName_0
      rw [show f_Model_within F y.toInt64 1 16777215 w = _ from wi F w y 1 16777215, if_neg h, Option.bind_some]
      exact m_nm0 (by omega)
theorem nam_c {y : Int32} {n : Nat} (h : isNam y n) (hF : 20000 ≤ F) : f_Zip_nameBytes F y w = some (nI (nbN n), w) := by
  obtain ⟨rfl, h1, h2, h3⟩ := h
  rw [c_nb hF h1 h2, h3]
  rfl
theorem nam_m {y : Int32} {n : Nat} (h : isNam y n) (hF : 20000 ≤ F) : f_Model_isName F y w = some (1, w) := by
  obtain ⟨rfl, h1, h2, h3⟩ := h
  unfold f_Model_isName b_Model_isName_0
  rw [show f_Model_within F (nI n).toInt64 1 16777215 w = _ from wi F w (nI n) 1 16777215, if_pos ⟨nI_le (a := 1) h1 (by omega), nI_le (b := 16777215) h2 (by decide)⟩, Option.bind_some]
  have := m_nm_l (F := F) (w := w) h2 F 0 true (Nat.zero_le _) (by have := nbN_le n; omega)
  rw [Nat.sub_zero, h3] at this
  exact this
theorem c_isMe {m : Int32} : f_Zip_isMethod F m w = some (if m = 0 ∨ m = 8 then 1 else 0, w) := by
  unfold f_Zip_isMethod b_Zip_isMethod_0 b_Zip_isMethod_10
  by_cases c1 : m = 0
  · rw [if_pos c1, if_pos (Or.inl c1)]
  · rw [if_neg c1]
    by_cases c2 : m = 8
    · rw [if_pos c2, if_pos (Or.inr c2)]
    · rw [if_neg c2, if_neg (fun q => q.elim c1 c2)]
theorem m_isE8 {m : Int32} : f_Model_isEight F m w = some (if m = 0 ∨ m = 8 then 1 else 0, w) := by
  unfold f_Model_isEight b_Model_isEight_0 b_Model_isEight_10
  by_cases c1 : m = 0
  · rw [if_pos c1, if_pos (Or.inl c1)]
  · rw [if_neg c1]
    by_cases c2 : m = 8
    · rw [if_pos c2, if_pos (Or.inr c2)]
    · rw [if_neg c2, if_neg (fun q => q.elim c1 c2)]
end Nb
