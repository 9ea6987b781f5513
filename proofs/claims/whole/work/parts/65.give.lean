/-! give, put, fill, poke. -/
theorem sg_ {sc : List Int32} {k j : Nat} {x : Int32} (hl : sc.length ≤ 2048) (hk : k + j < sc.length) (hx : x = nI j) : sget sc (nI k + x) = some sc[k + j] := by
  rw [hx, nI_add]
  exact sget_of hl hk
theorem n18 (n : Int32) : (∃ t, 1 ≤ t ∧ t ≤ 8 ∧ n = nI t) ∨ ¬ ((1 : Int32) ≤ n ∧ n ≤ 8) := by
  by_cases h : (1 : Int32) ≤ n ∧ n ≤ 8
  · obtain ⟨t, ht, rfl⟩ := nI_of (x := n) (fun q => absurd (Int32.lt_of_lt_of_le q (by decide : (0 : Int32) ≤ 1)) (Int32.not_lt.mpr h.1))
    exact Or.inl ⟨t, (nI_leI (a := 1) (by decide) ht).mp h.1, (nI_leI (b := 8) ht (by decide)).mp h.2, rfl⟩
  · exact Or.inr h
theorem GI_buf {B L B' : List Int32} {wd : Int32} (h : GI B L wd) (h1 : B'.length ≤ 200) (h2 : ∀ b ∈ B', isB b) : GI B' L wd := ⟨h.1, h1, h.2.2.1, h2, h.2.2.2.2⟩
theorem GI_file {B L L' : List Int32} {wd : Int32} (h : GI B L wd) (h1 : L'.length ≤ 1600) (h2 : ∀ b ∈ L', isB b) : GI B L' wd := ⟨h.1, h.2.1, h1, h.2.2.2.1, h2⟩
theorem app_B {B X : List Int32} (h1 : ∀ b ∈ B, isB b) (h2 : ∀ b ∈ X, isB b) : ∀ b ∈ B ++ X, isB b := fun b hb => (List.mem_append.mp hb).elim (h1 b) (h2 b)
section Gp
variable {J : yJ} {A : yA} {s : Nat} {x : Int64} {Q : zW} {B L : List Int32} {wd : Int32} {F : Nat}
theorem CI_ra1 {X : List Int32} (hC : CI J A B L wd) (hS : Sh A) (h : B.length + X.length ≤ 200) : CI (pj J 1 1 (nI (B.length + X.length))) (ud A 2 (wr (A 2) B.length X)) (B ++ X) L wd := by
  obtain ⟨c1, c2, c3, c4, c5⟩ := hC
  have hl : (A 2).length = 200 := hS 2
  refine ⟨?_, ?_, ?_, ?_, ?_⟩
  · rw [pj_s, List.length_append]
  · rw [ud_s, List.length_append, wr_take (by omega), c2]
  · rw [pj_o (by decide)]; exact c3
  · rw [ud_n (by decide)]; exact c4
  · rw [pj_o (by decide)]; exact c5
theorem CI_ra3 {X : List Int32} (hC : CI J A B L wd) (hS : Sh A) (h : L.length + X.length ≤ 1600) : CI (pj J 3 1 (nI (L.length + X.length))) (ud A 4 (wr (A 4) L.length X)) B (L ++ X) wd := by
  obtain ⟨c1, c2, c3, c4, c5⟩ := hC
  have hl : (A 4).length = 1600 := hS 4
  refine ⟨?_, ?_, ?_, ?_, ?_⟩
  · rw [pj_o (by decide)]; exact c1
  · rw [ud_n (by decide)]; exact c2
  · rw [pj_s, List.length_append]
  · rw [ud_s, List.length_append, wr_take (by omega), c4]
  · rw [pj_o (by decide)]; exact c5
theorem MI_b {X : List Int32} (hM : MI J A B L wd) (hS : Sh A) (h : B.length + X.length ≤ 200) (z : Int32) : MI (pj (pj J 39 0 z) 39 1 (nI (B.length + X.length))) (ud A 40 (wr (A 40) B.length X)) (B ++ X) L wd := by
  obtain ⟨c1, c2, c3, c4, c5, c6⟩ := hM
  have hl : (A 40).length = 200 := hS 40
  refine ⟨?_, ?_, ?_, ?_, ?_, ?_⟩
  · rw [pj_s, List.length_append]
  · rw [ud_s, List.length_append, wr_take (by omega), c2]
  · rw [pj_k (by decide), pj_k (by decide)]; exact c3
  · rw [ud_n (by decide)]; exact c4
  · rw [pj_k (by decide), pj_k (by decide)]; exact c5
  · rw [ud_n (by decide)]; exact c6
theorem MI_f {X : List Int32} (hM : MI J A B L wd) (hS : Sh A) (h : L.length + X.length ≤ 1600) (z : Int32) : MI (pj (pj J 39 0 z) 39 3 (nI (L.length + X.length))) (ud A 41 (wr (A 41) L.length X)) B (L ++ X) wd := by
  obtain ⟨c1, c2, c3, c4, c5, c6⟩ := hM
  have hl : (A 41).length = 1600 := hS 41
  refine ⟨?_, ?_, ?_, ?_, ?_, ?_⟩
  · rw [pj_k (by decide), pj_k (by decide)]; exact c1
  · rw [ud_n (by decide)]; exact c2
  · rw [pj_s, List.length_append]
  · rw [ud_s, List.length_append, wr_take (by omega), c4]
  · rw [pj_k (by decide), pj_k (by decide)]; exact c5
  · rw [ud_n (by decide)]; exact c6
theorem MI_0 (hM : MI J A B L wd) (z : Int32) : MI (pj J 39 0 z) A B L wd := by
  obtain ⟨c1, c2, c3, c4, c5, c6⟩ := hM
  exact ⟨by rw [pj_k (by decide)]; exact c1, c2, by rw [pj_k (by decide)]; exact c3, c4, by rw [pj_k (by decide)]; exact c5, c6⟩
/-- the row r gets n bytes of y, the highest first -/
theorem c_appendTo {r a t : Nat} {y : Int64} {C : List Int32} (hF : 20000 ≤ F) (h : isR r a) (hS : Sh A) (h1 : J r 1 = nI C.length) (h2 : C.length ≤ aL a) (ht : 1 ≤ t) (ht8 : t ≤ 8) : f_Zip_appendTo F r y (nI t) (YW J A s Q) = if C.length + t ≤ aL a then some (.inl (nI (C.length + t)), ra J A s Q r a C.length (hbs y t)) else some (.inr (YW J A s Q).length, YW J A s Q ++ [.inr (.inr (.inr (11, [])))]) := by
  have ha := R_ne h
  unfold f_Zip_appendTo b_Zip_appendTo_0
  rw [if_neg (show ¬ nI t < 1 from nI_nlt (b := 1) ht (by omega)), if_pos (show nI t ≤ 8 from nI_le (b := 8) ht8 (by decide)), R_o h, Option.bind_some, W_room h hS h1 h2 (by omega), Option.bind_some]
  by_cases hc : C.length + t ≤ aL a
  · rw [if_pos hc, if_pos hc]
    simp only []
    rw [if_neg (by decide), R_o h, Option.bind_some, ← ra_nil (a := a) (s := s) (Q := Q) (A := A) h1, ra_high hF h hS y (by simpa using hc), Option.bind_some, List.nil_append]
    have g1 : getI (ra J A s Q r a C.length (hbs y t)) r 0 1 = some (nI (C.length + t)) := by unfold ra; rw [R_1 h, pj_s, hbs_len]
    simp only []
    rw [g1, Option.bind_some]
  · rw [if_neg hc, if_neg hc]
    simp only []
    rw [if_pos trivial]
theorem c_appendNo {r : Nat} {y : Int64} {n : Int32} {w : zW} (h : ¬ ((1 : Int32) ≤ n ∧ n ≤ 8)) : f_Zip_appendTo F r y n w = some (.inr w.length, w ++ [.inr (.inr (.inr (10, [])))]) := by
  unfold f_Zip_appendTo b_Zip_appendTo_0 b_Zip_appendTo_11
  by_cases h1 : n < 1
  · rw [if_pos h1]
  · rw [if_neg h1, if_neg (fun q => h ⟨Int32.not_lt.mp h1, q⟩)]
end Gp
theorem c_give {J : yJ} {A : yA} {s : Nat} {x : Int64} {Q : zW} {B L : List Int32} {wd : Int32} {F : Nat} (hF : 20000 ≤ F) (y : Int64) (n : Int32) (hS : Sh A) (hC : CI J A B L wd) (hG : GI B L wd) :
    (∀ t, 1 ≤ t → t ≤ 8 → n = nI t → B.length + t ≤ 200 → CO J A (f_Law_give F 0 y n 60 (YW J A s (.inr (.inl [x]) :: Q))) 0 (nI (B.length + t)) (B ++ hbs y t) L wd) ∧
    (∀ t, 1 ≤ t → t ≤ 8 → n = nI t → ¬ B.length + t ≤ 200 → CO J A (f_Law_give F 0 y n 60 (YW J A s (.inr (.inl [x]) :: Q))) 2 0 B L wd) ∧
    (¬ ((1 : Int32) ≤ n ∧ n ≤ 8) → CO J A (f_Law_give F 0 y n 60 (YW J A s (.inr (.inl [x]) :: Q))) 1 0 B L wd) := by
  have hr : isR 1 2 := Or.inl ⟨rfl, rfl⟩
  refine ⟨?_, ?_, ?_⟩
  · rintro t h1 h8 rfl hc
    have e := c_appendTo (F := F) (s := s) (Q := .inr (.inl [x]) :: Q) (y := y) (A := A) hF hr hS hC.1 (show B.length ≤ 200 from hG.2.1) h1 h8
    rw [if_pos (show B.length + t ≤ aL 2 from hc)] at e
    refine CO.mono (CO_ret (s' := s) (x := x) (Q' := Q) (hS.ud (wr_len (by rw [hbs_len]; have : (A 2).length = 200 := hS 2; omega))) (CI_ra1 hC hS (by rw [hbs_len]; exact hc)) (pj_row (by decide)) (fun j hj => ud_n (by omega))) ?_
    unfold f_Law_give b_Law_give_0 f_Zip_give b_Zip_give_0
    simp only [wo_Z, wg_Z, Option.bind_some, e]
    unfold ra
    rfl
  · rintro t h1 h8 rfl hc
    have e := c_appendTo (F := F) (s := s) (Q := .inr (.inl [x]) :: Q) (y := y) (A := A) hF hr hS hC.1 (show B.length ≤ 200 from hG.2.1) h1 h8
    rw [if_neg (show ¬ B.length + t ≤ aL 2 from hc)] at e
    refine CO.mono (CO_thr (s' := s) (x := x) (Q' := Q) (c := .inr (.inr (.inr (11, [])))) hS hC rfl (fun _ _ => rfl) (by decide)) ?_
    unfold f_Law_give b_Law_give_0 f_Zip_give b_Zip_give_0
    simp only [wo_Z, wg_Z, Option.bind_some, e]
    rw [if_neg (exc_no (by decide)), if_pos exc_at]
  · intro hn
    refine CO.mono (CO_thr (s' := s) (x := x) (Q' := Q) (c := .inr (.inr (.inr (10, [])))) hS hC rfl (fun _ _ => rfl) (by decide)) ?_
    unfold f_Law_give b_Law_give_0 f_Zip_give b_Zip_give_0
    simp only [wo_Z, wg_Z, Option.bind_some, c_appendNo hn]
    rw [if_pos exc_at]
theorem m_give {J : yJ} {A : yA} {s : Nat} {Q : zW} {B L : List Int32} {wd : Int32} {F : Nat} (hF : 20000 ≤ F) (y : Int64) (n : Int32) (hS : Sh A) (hM : MI J A B L wd) (hG : GI B L wd) :
    (∀ t, 1 ≤ t → t ≤ 8 → n = nI t → B.length + t ≤ 200 → MO J A s Q (f_Model_give F 39 y n (YW J A s Q)) 0 (nI (B.length + t)) (B ++ hbs y t) L wd) ∧
    (∀ t, 1 ≤ t → t ≤ 8 → n = nI t → ¬ B.length + t ≤ 200 → MO J A s Q (f_Model_give F 39 y n (YW J A s Q)) 2 0 B L wd) ∧
    (¬ ((1 : Int32) ≤ n ∧ n ≤ 8) → MO J A s Q (f_Model_give F 39 y n (YW J A s Q)) 1 0 B L wd) := by
  have hw : f_Model_within F n.toInt64 (1 : Int64) (8 : Int64) (YW J A s Q) = some (if (1 : Int32) ≤ n ∧ n ≤ 8 then 1 else 0, YW J A s Q) := wi F (YW J A s Q) n 1 8
  have bad : ∀ z : Int32, ¬ z = 0 → ¬ z ≤ 0 → b_Model_give_34 F 39 y n 39 z (YW J A s Q) = some (0, YW (pj J 39 0 z) A s Q) := by
    intro z hz hz2
    unfold b_Model_give_34
    simp only [wp_M, Option.bind_some]
    obtain ⟨q, rfl⟩ : ∃ q', F = q' + 1 := ⟨F - 1, by omega⟩
    show b_Model_give_42 _ (l_Model_give_42 _ q) 39 y (n - 1) _ = _
    unfold b_Model_give_42 b_Model_give_91
    simp only [wg_M, Option.bind_some]
    rw [pj_s, if_neg hz, if_neg hz2]
    exact ite_self _
  refine ⟨?_, ?_, ?_⟩
  · rintro t h1 h8 rfl hc
    rw [if_pos ⟨nI_le (a := 1) h1 (by omega), nI_le (b := 8) h8 (by decide)⟩] at hw
    have e := M_give_l (J := pj J 39 0 0) (A := A) (s := s) (Q := Q) (F := F) y pj_s t F B.length (A 40) (by omega) h8 hc (hS 40)
    rw [ud_id rfl, pj_id (x := nI B.length) (by rw [pj_k (by decide)]; exact hM.1)] at e
    refine ⟨_, _, _, ?_, hS.ud (wr_len (by rw [hbs_len]; have : (A 40).length = 200 := hS 40; omega)), MI_b hM hS (X := hbs y t) (by rw [hbs_len]; exact hc) 0, ?_, fun _ => rfl, ?_, ?_⟩
    · unfold f_Model_give b_Model_give_0
      rw [hw, Option.bind_some]
      simp only []
      rw [if_neg (by decide)]
      simp only [wg_M, Option.bind_some]
      rw [hM.1, nI_add, if_pos (show nI (B.length + t) ≤ 200 from nI_le (b := 200) hc (by decide))]
      unfold b_Model_give_34
      simp only [wp_M, Option.bind_some]
      rw [e, hbs_len]
    · rw [pj_k (by decide), pj_s]
    · intro o ho
      rw [pj_row (by omega), pj_row (by omega)]
    · intro j hj
      exact ud_n (by omega)
  · rintro t h1 h8 rfl hc
    rw [if_pos ⟨nI_le (a := 1) h1 (by omega), nI_le (b := 8) h8 (by decide)⟩] at hw
    refine ⟨_, _, 0, ?_, hS, MI_0 hM 2, pj_s, fun q => absurd q (by decide), fun o ho => pj_row (by omega), fun _ _ => rfl⟩
    · unfold f_Model_give b_Model_give_0
      rw [hw, Option.bind_some]
      simp only []
      rw [if_neg (by decide)]
      simp only [wg_M, Option.bind_some]
      have hb := hG.2.1
      rw [hM.1, nI_add, if_neg (show ¬ nI (B.length + t) ≤ 200 from nI_ge (b := B.length + t) (a := 200) (by omega) (by omega)), bad 2 (by decide) (by decide)]
  · intro hn
    rw [if_neg hn] at hw
    refine ⟨_, _, 0, ?_, hS, MI_0 hM 1, pj_s, fun q => absurd q (by decide), fun o ho => pj_row (by omega), fun _ _ => rfl⟩
    · unfold f_Model_give b_Model_give_0
      rw [hw, Option.bind_some]
      simp only []
      rw [if_pos trivial, bad 1 (by decide) (by decide)]
theorem step_149 : StepAt b_Law_law_149 := by
  intro F sc K k w hF hl hk hI
  unfold b_Law_law_149
  simp only [sg_ hl (show k + 1 < sc.length by omega) (show (1 : Int32) = nI 1 from rfl), sg_ hl (show k + 2 < sc.length by omega) (show (2 : Int32) = nI 2 from rfl), sg_ hl (show k + 3 < sc.length by omega) (show (3 : Int32) = nI 3 from rfl), Option.bind_some]
  generalize (sc[k + 1].toInt64 <<< ((32 : Int32).toInt64 &&& 63)) ||| (sc[k + 2].toInt64 &&& (4294967295 : Int64)) = y
  refine call_step (fun w => f_Law_give F 0 y sc[k + 3] 60 w) (fun w => f_Model_give F 39 y sc[k + 3] w) hI ?_
  intro J A s x Q B L wd hS hC hM hG
  have c := c_give (s := s) (x := x) (Q := Q) hF y sc[k + 3] hS hC hG
  rcases n18 sc[k + 3] with ⟨t, h1, h8, e⟩ | hn
  · by_cases hc : B.length + t ≤ 200
    · exact ⟨0, nI (B.length + t), (B ++ hbs y t), L, wd, GI_buf hG (by rw [List.length_append, hbs_len]; exact hc) (app_B hG.2.2.2.1 isB_hbs), c.1 t h1 h8 e hc, fun J1 A1 s1 Q1 S1 M1 => (m_give hF y sc[k + 3] S1 M1 hG).1 t h1 h8 e hc⟩
    · exact ⟨2, 0, B, L, wd, hG, c.2.1 t h1 h8 e hc, fun J1 A1 s1 Q1 S1 M1 => (m_give hF y sc[k + 3] S1 M1 hG).2.1 t h1 h8 e hc⟩
  · exact ⟨1, 0, B, L, wd, hG, c.2.2 hn, fun J1 A1 s1 Q1 S1 M1 => (m_give hF y sc[k + 3] S1 M1 hG).2.2 hn⟩
theorem c_put {J : yJ} {A : yA} {s : Nat} {x : Int64} {Q : zW} {B L : List Int32} {wd : Int32} {F : Nat} (hF : 20000 ≤ F) (y : Int64) (n : Int32) (hS : Sh A) (hC : CI J A B L wd) (hG : GI B L wd) :
    (∀ t, 1 ≤ t → t ≤ 8 → n = nI t → L.length + t ≤ 1600 → CO J A (f_Law_put F 0 y n 60 (YW J A s (.inr (.inl [x]) :: Q))) 0 (nI (L.length + t)) B (L ++ hbs y t) wd) ∧
    (∀ t, 1 ≤ t → t ≤ 8 → n = nI t → ¬ L.length + t ≤ 1600 → CO J A (f_Law_put F 0 y n 60 (YW J A s (.inr (.inl [x]) :: Q))) 2 0 B L wd) ∧
    (¬ ((1 : Int32) ≤ n ∧ n ≤ 8) → CO J A (f_Law_put F 0 y n 60 (YW J A s (.inr (.inl [x]) :: Q))) 1 0 B L wd) := by
  have hr : isR 3 4 := Or.inr (Or.inl ⟨rfl, rfl⟩)
  refine ⟨?_, ?_, ?_⟩
  · rintro t h1 h8 rfl hc
    have e := c_appendTo (F := F) (s := s) (Q := .inr (.inl [x]) :: Q) (y := y) (A := A) hF hr hS hC.2.2.1 (show L.length ≤ 1600 from hG.2.2.1) h1 h8
    rw [if_pos (show L.length + t ≤ aL 4 from hc)] at e
    refine CO.mono (CO_ret (s' := s) (x := x) (Q' := Q) (hS.ud (wr_len (by rw [hbs_len]; have : (A 4).length = 1600 := hS 4; omega))) (CI_ra3 hC hS (by rw [hbs_len]; exact hc)) (pj_row (by decide)) (fun j hj => ud_n (by omega))) ?_
    unfold f_Law_put b_Law_put_0 f_Zip_put b_Zip_put_0
    simp only [wo_Z, wg_Z, Option.bind_some, e]
    unfold ra
    rfl
  · rintro t h1 h8 rfl hc
    have e := c_appendTo (F := F) (s := s) (Q := .inr (.inl [x]) :: Q) (y := y) (A := A) hF hr hS hC.2.2.1 (show L.length ≤ 1600 from hG.2.2.1) h1 h8
    rw [if_neg (show ¬ L.length + t ≤ aL 4 from hc)] at e
    refine CO.mono (CO_thr (s' := s) (x := x) (Q' := Q) (c := .inr (.inr (.inr (11, [])))) hS hC rfl (fun _ _ => rfl) (by decide)) ?_
    unfold f_Law_put b_Law_put_0 f_Zip_put b_Zip_put_0
    simp only [wo_Z, wg_Z, Option.bind_some, e]
    rw [if_neg (exc_no (by decide)), if_pos exc_at]
  · intro hn
    refine CO.mono (CO_thr (s' := s) (x := x) (Q' := Q) (c := .inr (.inr (.inr (10, [])))) hS hC rfl (fun _ _ => rfl) (by decide)) ?_
    unfold f_Law_put b_Law_put_0 f_Zip_put b_Zip_put_0
    simp only [wo_Z, wg_Z, Option.bind_some, c_appendNo hn]
    rw [if_pos exc_at]
theorem m_put {J : yJ} {A : yA} {s : Nat} {Q : zW} {B L : List Int32} {wd : Int32} {F : Nat} (hF : 20000 ≤ F) (y : Int64) (n : Int32) (hS : Sh A) (hM : MI J A B L wd) (hG : GI B L wd) :
    (∀ t, 1 ≤ t → t ≤ 8 → n = nI t → L.length + t ≤ 1600 → MO J A s Q (f_Model_put F 39 y n (YW J A s Q)) 0 (nI (L.length + t)) B (L ++ hbs y t) wd) ∧
    (∀ t, 1 ≤ t → t ≤ 8 → n = nI t → ¬ L.length + t ≤ 1600 → MO J A s Q (f_Model_put F 39 y n (YW J A s Q)) 2 0 B L wd) ∧
    (¬ ((1 : Int32) ≤ n ∧ n ≤ 8) → MO J A s Q (f_Model_put F 39 y n (YW J A s Q)) 1 0 B L wd) := by
  have hw : f_Model_within F n.toInt64 (1 : Int64) (8 : Int64) (YW J A s Q) = some (if (1 : Int32) ≤ n ∧ n ≤ 8 then 1 else 0, YW J A s Q) := wi F (YW J A s Q) n 1 8
  have bad : ∀ z : Int32, ¬ z = 0 → ¬ z ≤ 0 → b_Model_put_34 F 39 y n 39 z (YW J A s Q) = some (0, YW (pj J 39 0 z) A s Q) := by
    intro z hz hz2
    unfold b_Model_put_34
    simp only [wp_M, Option.bind_some]
    obtain ⟨q, rfl⟩ : ∃ q', F = q' + 1 := ⟨F - 1, by omega⟩
    show b_Model_put_42 _ (l_Model_put_42 _ q) 39 y (n - 1) _ = _
    unfold b_Model_put_42 b_Model_put_91
    simp only [wg_M, Option.bind_some]
    rw [pj_s, if_neg hz, if_neg hz2]
    exact ite_self _
  refine ⟨?_, ?_, ?_⟩
  · rintro t h1 h8 rfl hc
    rw [if_pos ⟨nI_le (a := 1) h1 (by omega), nI_le (b := 8) h8 (by decide)⟩] at hw
    have e := M_put_l (J := pj J 39 0 0) (A := A) (s := s) (Q := Q) (F := F) y pj_s t F L.length (A 41) (by omega) h8 hc (hS 41)
    rw [ud_id rfl, pj_id (x := nI L.length) (by rw [pj_k (by decide)]; exact hM.2.2.1)] at e
    refine ⟨_, _, _, ?_, hS.ud (wr_len (by rw [hbs_len]; have : (A 41).length = 1600 := hS 41; omega)), MI_f hM hS (X := hbs y t) (by rw [hbs_len]; exact hc) 0, ?_, fun _ => rfl, ?_, ?_⟩
    · unfold f_Model_put b_Model_put_0
      rw [hw, Option.bind_some]
      simp only []
      rw [if_neg (by decide)]
      simp only [wg_M, Option.bind_some]
      rw [hM.2.2.1, nI_add, if_pos (show nI (L.length + t) ≤ 1600 from nI_le (b := 1600) hc (by decide))]
      unfold b_Model_put_34
      simp only [wp_M, Option.bind_some]
      rw [e, hbs_len]
    · rw [pj_k (by decide), pj_s]
    · intro o ho
      rw [pj_row (by omega), pj_row (by omega)]
    · intro j hj
      exact ud_n (by omega)
  · rintro t h1 h8 rfl hc
    rw [if_pos ⟨nI_le (a := 1) h1 (by omega), nI_le (b := 8) h8 (by decide)⟩] at hw
    refine ⟨_, _, 0, ?_, hS, MI_0 hM 2, pj_s, fun q => absurd q (by decide), fun o ho => pj_row (by omega), fun _ _ => rfl⟩
    · unfold f_Model_put b_Model_put_0
      rw [hw, Option.bind_some]
      simp only []
      rw [if_neg (by decide)]
      simp only [wg_M, Option.bind_some]
      have hb := hG.2.2.1
      rw [hM.2.2.1, nI_add, if_neg (show ¬ nI (L.length + t) ≤ 1600 from nI_ge (b := L.length + t) (a := 1600) (by omega) (by omega)), bad 2 (by decide) (by decide)]
  · intro hn
    rw [if_neg hn] at hw
    refine ⟨_, _, 0, ?_, hS, MI_0 hM 1, pj_s, fun q => absurd q (by decide), fun o ho => pj_row (by omega), fun _ _ => rfl⟩
    · unfold f_Model_put b_Model_put_0
      rw [hw, Option.bind_some]
      simp only []
      rw [if_pos trivial, bad 1 (by decide) (by decide)]
theorem step_987 : StepAt b_Law_law_987 := by
  intro F sc K k w hF hl hk hI
  unfold b_Law_law_987
  simp only [sg_ hl (show k + 1 < sc.length by omega) (show (1 : Int32) = nI 1 from rfl), sg_ hl (show k + 2 < sc.length by omega) (show (2 : Int32) = nI 2 from rfl), sg_ hl (show k + 3 < sc.length by omega) (show (3 : Int32) = nI 3 from rfl), Option.bind_some]
  generalize (sc[k + 1].toInt64 <<< ((32 : Int32).toInt64 &&& 63)) ||| (sc[k + 2].toInt64 &&& (4294967295 : Int64)) = y
  refine call_step (fun w => f_Law_put F 0 y sc[k + 3] 60 w) (fun w => f_Model_put F 39 y sc[k + 3] w) hI ?_
  intro J A s x Q B L wd hS hC hM hG
  have c := c_put (s := s) (x := x) (Q := Q) hF y sc[k + 3] hS hC hG
  rcases n18 sc[k + 3] with ⟨t, h1, h8, e⟩ | hn
  · by_cases hc : L.length + t ≤ 1600
    · exact ⟨0, nI (L.length + t), B, (L ++ hbs y t), wd, GI_file hG (by rw [List.length_append, hbs_len]; exact hc) (app_B hG.2.2.2.2 isB_hbs), c.1 t h1 h8 e hc, fun J1 A1 s1 Q1 S1 M1 => (m_put hF y sc[k + 3] S1 M1 hG).1 t h1 h8 e hc⟩
    · exact ⟨2, 0, B, L, wd, hG, c.2.1 t h1 h8 e hc, fun J1 A1 s1 Q1 S1 M1 => (m_put hF y sc[k + 3] S1 M1 hG).2.1 t h1 h8 e hc⟩
  · exact ⟨1, 0, B, L, wd, hG, c.2.2 hn, fun J1 A1 s1 Q1 S1 M1 => (m_put hF y sc[k + 3] S1 M1 hG).2.2 hn⟩
