/-! fill, poke. -/
theorem n1h (n : Int32) : (∃ t, 1 ≤ t ∧ t ≤ 200 ∧ n = nI t) ∨ ¬ ((1 : Int32) ≤ n ∧ n ≤ 200) := by
  by_cases h : (1 : Int32) ≤ n ∧ n ≤ 200
  · obtain ⟨t, ht, rfl⟩ := nI_of (x := n) (fun q => absurd (Int32.lt_of_lt_of_le q (by decide : (0 : Int32) ≤ 1)) (Int32.not_lt.mpr h.1))
    exact Or.inl ⟨t, (nI_leI (a := 1) (by decide) ht).mp h.1, (nI_leI (b := 200) ht (by decide)).mp h.2, rfl⟩
  · exact Or.inr h
theorem isB_of {b : Int32} (h : (0 : Int32) ≤ b ∧ b ≤ 255) : isB b := by
  obtain ⟨t, ht, rfl⟩ := nI_of (x := b) (Int32.not_lt.mpr h.1)
  exact ⟨t, Nat.lt_succ_of_le ((nI_leI (b := 255) ht (by decide)).mp h.2), rfl⟩
theorem isB_rep {b : Int32} {n : Nat} (h : isB b) : ∀ c ∈ List.replicate n b, isB c := fun c hc => by rw [(List.mem_replicate.mp hc).2]; exact h
theorem c_fill {J : yJ} {A : yA} {s : Nat} {x : Int64} {Q : zW} {B L : List Int32} {wd : Int32} {F : Nat} (hF : 20000 ≤ F) (b n : Int32) (hS : Sh A) (hC : CI J A B L wd) (hG : GI B L wd) :
    (∀ t, 1 ≤ t → t ≤ 200 → n = nI t → (0 : Int32) ≤ b ∧ b ≤ 255 → B.length + t ≤ 200 → CO J A (f_Law_fill F 0 b n 60 (YW J A s (.inr (.inl [x]) :: Q))) 0 (nI (B.length + t)) (B ++ List.replicate t b) L wd) ∧
    (∀ t, 1 ≤ t → t ≤ 200 → n = nI t → (0 : Int32) ≤ b ∧ b ≤ 255 → ¬ B.length + t ≤ 200 → CO J A (f_Law_fill F 0 b n 60 (YW J A s (.inr (.inl [x]) :: Q))) 2 0 B L wd) ∧
    (¬ ((0 : Int32) ≤ b ∧ b ≤ 255) ∨ ¬ ((1 : Int32) ≤ n ∧ n ≤ 200) → CO J A (f_Law_fill F 0 b n 60 (YW J A s (.inr (.inl [x]) :: Q))) 1 0 B L wd) := by
  have hr : isR 1 2 := Or.inl ⟨rfl, rfl⟩
  refine ⟨?_, ?_, ?_⟩
  · rintro t h1 h2 rfl hb hc
    have e := C_fill_l (J := J) (A := A) (s := s) (Q := .inr (.inl [x]) :: Q) (F := F) (n := B.length) hS b t F 0 [] (Nat.zero_le _) (by omega) h2 (by simpa using hc)
    rw [ra_nil hC.1, List.nil_append, Nat.sub_zero, List.length_nil, Nat.add_zero] at e
    refine CO.mono (CO_ret (s' := s) (x := x) (Q' := Q) (hS.ud (wr_len (by rw [List.length_replicate]; have : (A 2).length = 200 := hS 2; omega))) (CI_ra1 hC hS (X := List.replicate t b) (by rw [List.length_replicate]; exact hc)) (pj_row (by decide)) (fun j hj => ud_n (by omega))) ?_
    unfold f_Law_fill b_Law_fill_0 f_Zip_fill b_Zip_fill_0
    simp only [wo_Z, isByte_, if_pos hb, Option.bind_some]
    rw [if_neg (by decide), if_neg (show ¬ nI t < 1 from nI_nlt (b := 1) h1 (by omega)), if_pos (show nI t ≤ 200 from nI_le (b := 200) h2 (by decide))]
    simp only [wg_Z, Option.bind_some, R_o hr, W_room hr hS hC.1 (show B.length ≤ 200 from hG.2.1) (show t < 2 ^ 30 by omega)]
    rw [if_pos (show B.length + t ≤ aL 2 from hc), if_neg (by decide)]
    rw [show l_Zip_fill_48 F F 0 b (nI t) 0 (YW J A s (.inr (.inl [x]) :: Q)) = _ from e]
    unfold ra
    rfl
  · rintro t h1 h2 rfl hb hc
    refine CO.mono (CO_thr (s' := s) (x := x) (Q' := Q) (c := .inr (.inr (.inr (11, [])))) hS hC rfl (fun _ _ => rfl) (by decide)) ?_
    unfold f_Law_fill b_Law_fill_0 f_Zip_fill b_Zip_fill_0
    simp only [wo_Z, isByte_, if_pos hb, Option.bind_some]
    rw [if_neg (by decide), if_neg (show ¬ nI t < 1 from nI_nlt (b := 1) h1 (by omega)), if_pos (show nI t ≤ 200 from nI_le (b := 200) h2 (by decide))]
    simp only [wg_Z, Option.bind_some, R_o hr, W_room hr hS hC.1 (show B.length ≤ 200 from hG.2.1) (show t < 2 ^ 30 by omega)]
    rw [if_neg (show ¬ B.length + t ≤ aL 2 from hc), if_pos (by decide)]
    simp only [Option.bind_some]
    rw [if_neg (exc_no (by decide)), if_pos exc_at]
  · intro hn
    refine CO.mono (CO_thr (s' := s) (x := x) (Q' := Q) (c := .inr (.inr (.inr (10, [])))) hS hC rfl (fun _ _ => rfl) (by decide)) ?_
    have e : f_Zip_fill F 0 b n (YW J A s (.inr (.inl [x]) :: Q)) = b_Zip_fill_19 F (YW J A s (.inr (.inl [x]) :: Q)) := by
      unfold f_Zip_fill b_Zip_fill_0
      simp only [isByte_, Option.bind_some]
      by_cases hb : (0 : Int32) ≤ b ∧ b ≤ 255
      · rw [if_pos hb, if_neg (by decide)]
        by_cases h1 : n < 1
        · rw [if_pos h1]
        · rw [if_neg h1, if_neg (fun q => (hn.resolve_left (fun z => z hb)) ⟨Int32.not_lt.mp h1, q⟩)]
      · rw [if_neg hb, if_pos rfl]
    unfold f_Law_fill b_Law_fill_0
    simp only [wo_Z, Option.bind_some, e]
    unfold b_Zip_fill_19
    simp only [Option.bind_some]
    rw [if_pos exc_at]
theorem m_fill {J : yJ} {A : yA} {s : Nat} {Q : zW} {B L : List Int32} {wd : Int32} {F : Nat} (hF : 20000 ≤ F) (b n : Int32) (hS : Sh A) (hM : MI J A B L wd) (hG : GI B L wd) :
    (∀ t, 1 ≤ t → t ≤ 200 → n = nI t → (0 : Int32) ≤ b ∧ b ≤ 255 → B.length + t ≤ 200 → MO J A s Q (f_Model_fill F 39 b n (YW J A s Q)) 0 (nI (B.length + t)) (B ++ List.replicate t b) L wd) ∧
    (∀ t, 1 ≤ t → t ≤ 200 → n = nI t → (0 : Int32) ≤ b ∧ b ≤ 255 → ¬ B.length + t ≤ 200 → MO J A s Q (f_Model_fill F 39 b n (YW J A s Q)) 2 0 B L wd) ∧
    (¬ ((0 : Int32) ≤ b ∧ b ≤ 255) ∨ ¬ ((1 : Int32) ≤ n ∧ n ≤ 200) → MO J A s Q (f_Model_fill F 39 b n (YW J A s Q)) 1 0 B L wd) := by
  have hw : f_Model_within F n.toInt64 (1 : Int64) (200 : Int64) (YW J A s Q) = some (if (1 : Int32) ≤ n ∧ n ≤ 200 then 1 else 0, YW J A s Q) := wi F (YW J A s Q) n 1 200
  have hv : f_Model_within F b.toInt64 (0 : Int64) (255 : Int64) (YW J A s Q) = some (if (0 : Int32) ≤ b ∧ b ≤ 255 then 1 else 0, YW J A s Q) := wi F (YW J A s Q) b 0 255
  have bad : ∀ z : Int32, ¬ z = 0 → ¬ z ≤ 0 → b_Model_fill_46 F 39 b n 39 z (YW J A s Q) = some (0, YW (pj J 39 0 z) A s Q) := by
    intro z hz hz2
    unfold b_Model_fill_46
    simp only [wp_M, Option.bind_some]
    obtain ⟨q, rfl⟩ : ∃ q', F = q' + 1 := ⟨F - 1, by omega⟩
    show b_Model_fill_51 _ (l_Model_fill_51 _ q) 39 b n 0 _ = _
    unfold b_Model_fill_51 b_Model_fill_89
    simp only [wg_M, Option.bind_some]
    rw [pj_s, if_neg hz, if_neg hz2]
    exact ite_self _
  refine ⟨?_, ?_, ?_⟩
  · rintro t h1 h2 rfl hb hc
    rw [if_pos ⟨nI_le (a := 1) h1 (by omega), nI_le (b := 200) h2 (by decide)⟩] at hw
    rw [if_pos hb] at hv
    have e := M_fill_l (J := pj J 39 0 0) (A := A) (s := s) (Q := Q) (F := F) b pj_s t F 0 B.length (A 40) (Nat.zero_le _) (by omega) h2 (by omega) (hS 40)
    rw [ud_id rfl, pj_id (x := nI B.length) (by rw [pj_k (by decide)]; exact hM.1), Nat.sub_zero] at e
    refine ⟨_, _, _, ?_, hS.ud (wr_len (by rw [List.length_replicate]; have : (A 40).length = 200 := hS 40; omega)), MI_b hM hS (X := List.replicate t b) (by rw [List.length_replicate]; exact hc) 0, ?_, fun _ => rfl, ?_, ?_⟩
    · unfold f_Model_fill b_Model_fill_0
      rw [hv, Option.bind_some]
      simp only []
      rw [if_neg (by decide), hw, Option.bind_some]
      simp only []
      rw [if_neg (by decide)]
      simp only [wg_M, Option.bind_some]
      rw [hM.1, nI_add, if_pos (show nI (B.length + t) ≤ 200 from nI_le (b := 200) hc (by decide))]
      unfold b_Model_fill_46
      simp only [wp_M, Option.bind_some]
      rw [show l_Model_fill_51 F F 39 b (nI t) 0 (YW (pj J 39 0 0) A s Q) = _ from e, List.length_replicate]
    · rw [pj_k (by decide), pj_s]
    · intro o ho
      rw [pj_row (by omega), pj_row (by omega)]
    · intro j hj
      exact ud_n (by omega)
  · rintro t h1 h2 rfl hb hc
    rw [if_pos ⟨nI_le (a := 1) h1 (by omega), nI_le (b := 200) h2 (by decide)⟩] at hw
    rw [if_pos hb] at hv
    refine ⟨_, _, 0, ?_, hS, MI_0 hM 2, pj_s, fun q => absurd q (by decide), fun o ho => pj_row (by omega), fun _ _ => rfl⟩
    unfold f_Model_fill b_Model_fill_0
    rw [hv, Option.bind_some]
    simp only []
    rw [if_neg (by decide), hw, Option.bind_some]
    simp only []
    rw [if_neg (by decide)]
    simp only [wg_M, Option.bind_some]
    have hb := hG.2.1
    rw [hM.1, nI_add, if_neg (show ¬ nI (B.length + t) ≤ 200 from nI_ge (b := B.length + t) (a := 200) (by omega) (by omega)), bad 2 (by decide) (by decide)]
  · intro hn
    refine ⟨_, _, 0, ?_, hS, MI_0 hM 1, pj_s, fun q => absurd q (by decide), fun o ho => pj_row (by omega), fun _ _ => rfl⟩
    unfold f_Model_fill b_Model_fill_0 b_Model_fill_25
    rw [hv, Option.bind_some]
    simp only []
    by_cases hb : (0 : Int32) ≤ b ∧ b ≤ 255
    · rw [if_pos hb, if_neg (by decide), hw, if_neg (hn.resolve_left (fun z => z hb)), Option.bind_some]
      simp only []
      rw [if_pos trivial, bad 1 (by decide) (by decide)]
    · rw [if_neg hb, if_pos rfl, bad 1 (by decide) (by decide)]
theorem step_249 : StepAt b_Law_law_249 := by
  intro F sc K k w hF hl hk hI
  unfold b_Law_law_249
  simp only [sg_ hl (show k + 1 < sc.length by omega) (show (1 : Int32) = nI 1 from rfl), sg_ hl (show k + 2 < sc.length by omega) (show (2 : Int32) = nI 2 from rfl), Option.bind_some]
  generalize sc[k + 1] = b
  generalize sc[k + 2] = n
  refine call_step (fun w => f_Law_fill F 0 b n 60 w) (fun w => f_Model_fill F 39 b n w) hI ?_
  intro J A s x Q B L wd hS hC hM hG
  have c := c_fill (s := s) (x := x) (Q := Q) hF b n hS hC hG
  rcases n1h n with ⟨t, h1, h8, e⟩ | hn
  · by_cases hb : (0 : Int32) ≤ b ∧ b ≤ 255
    · by_cases hc : B.length + t ≤ 200
      · exact ⟨0, nI (B.length + t), B ++ List.replicate t b, L, wd, GI_buf hG (by rw [List.length_append, List.length_replicate]; exact hc) (app_B hG.2.2.2.1 (isB_rep (isB_of hb))), c.1 t h1 h8 e hb hc, fun J1 A1 s1 Q1 S1 M1 => (m_fill hF b n S1 M1 hG).1 t h1 h8 e hb hc⟩
      · exact ⟨2, 0, B, L, wd, hG, c.2.1 t h1 h8 e hb hc, fun J1 A1 s1 Q1 S1 M1 => (m_fill hF b n S1 M1 hG).2.1 t h1 h8 e hb hc⟩
    · exact ⟨1, 0, B, L, wd, hG, c.2.2 (Or.inl hb), fun J1 A1 s1 Q1 S1 M1 => (m_fill hF b n S1 M1 hG).2.2 (Or.inl hb)⟩
  · exact ⟨1, 0, B, L, wd, hG, c.2.2 (Or.inr hn), fun J1 A1 s1 Q1 S1 M1 => (m_fill hF b n S1 M1 hG).2.2 (Or.inr hn)⟩
theorem step_939 : StepAt b_Law_law_939 := by
  intro F sc K k w hF hl hk hI
  unfold b_Law_law_939
  simp only [sg_ hl (show k + 1 < sc.length by omega) (show (1 : Int32) = nI 1 from rfl), sg_ hl (show k + 2 < sc.length by omega) (show (2 : Int32) = nI 2 from rfl), Option.bind_some]
  generalize sc[k + 1] = p
  generalize sc[k + 2] = b
  refine call_step0 (fun w => f_Law_poke F 0 p b w) (fun w => f_Model_poke F 39 p b w) hI ?_
  intro J A s x Q B L wd hS hC hM hG
  have hr : isR 3 4 := Or.inr (Or.inl ⟨rfl, rfl⟩)
  have hrw : rw_ (YW J A s (.inr (.inl [x]) :: Q)) 3 4 1600 L (J 3 2) := R_rw hr hS hC.2.2.1 hC.2.2.2.1
  have hgl := hG.2.2.1
  have hv : ∀ (J1 : yJ) (A1 : yA) (s1 : Nat) (Q1 : zW), f_Model_within F b.toInt64 (0 : Int64) (255 : Int64) (YW J1 A1 s1 Q1) = some (if (0 : Int32) ≤ b ∧ b ≤ 255 then 1 else 0, YW J1 A1 s1 Q1) := fun J1 A1 s1 Q1 => wi F (YW J1 A1 s1 Q1) b 0 255
  have hw : ∀ (J1 : yJ) (A1 : yA) (s1 : Nat) (Q1 : zW), f_Model_within F p.toInt64 (0 : Int64) (nI L.length - 1).toInt64 (YW J1 A1 s1 Q1) = some (if 0 ≤ p ∧ p < nI L.length then 1 else 0, YW J1 A1 s1 Q1) := fun J1 A1 s1 Q1 => by
    rw [show (0 : Int64) = (0 : Int32).toInt64 from rfl, wi]
    simp only [lt_pred (x := p) (n := L.length) (by omega)]
  rcases in_cases p (n := L.length) (by omega) with ⟨j, hj, rfl⟩ | hn
  · have hin : 0 ≤ nI j ∧ nI j < nI L.length := ⟨nI_pos' (by omega), nI_lt hj (by omega)⟩
    by_cases hb : (0 : Int32) ≤ b ∧ b ≤ 255
    · refine ⟨0, B, L.set j b, wd, GI_file hG (by rw [List.length_set]; exact hgl) (fun c hc => (List.mem_or_eq_of_mem_set hc).elim (hG.2.2.2.2 c) (fun e => by rw [e]; exact isB_of hb)), ?_, ?_⟩
      · refine ⟨J, ud A 4 ((A 4).set j b), s, x, Q, ?_, hS.ud List.length_set, ⟨hC.1, ?_, ?_, ?_, hC.2.2.2.2⟩, rfl, fun i hi => ud_n (by omega)⟩
        · unfold f_Law_poke b_Law_poke_0 f_Zip_poke b_Zip_poke_0
          simp only [wo_Z, wg_Z, Option.bind_some, R_o hr, rw_hasY F hrw hj]
          rw [if_neg (by decide), isByte_, if_pos hb, Option.bind_some]
          simp only []
          rw [if_neg (by decide)]
          simp only [wg_Z, Option.bind_some, R_a hr]
          have hl4 : (A 4).length = 1600 := hS 4
          rw [as_ (by decide) (by omega) (by omega)]
          rfl
        · rw [ud_n (by decide)]; exact hC.2.1
        · rw [List.length_set]; exact hC.2.2.1
        · rw [ud_s, List.length_set, List.take_set, hC.2.2.2.1]
      · intro J1 A1 s1 Q1 S1 M1
        have hl4 : (A1 41).length = 1600 := S1 41
        refine ⟨pj J1 39 0 0, ud A1 41 ((A1 41).set j b), ?_, S1.ud List.length_set, ?_, pj_s, fun o ho => pj_row (by omega), fun i hi => ud_n (by omega)⟩
        · unfold f_Model_poke b_Model_poke_0
          simp only [wg_M, Option.bind_some]
          rw [M1.2.2.1, hw, if_pos hin, Option.bind_some]
          simp only []
          rw [if_neg (by decide), hv, if_pos hb, Option.bind_some]
          simp only []
          rw [if_neg (by decide)]
          unfold b_Model_poke_38
          simp only [wp_M, wg_M, Option.bind_some]
          rw [pj_s, if_pos rfl, as_ (by decide) (by omega) (by omega)]
          rfl
        · obtain ⟨m1, m2, m3, m4, m5, m6⟩ := MI_0 M1 0
          refine ⟨m1, ?_, ?_, ?_, m5, ?_⟩
          · rw [ud_n (by decide)]; exact m2
          · rw [List.length_set]; exact m3
          · rw [ud_s, List.length_set, List.take_set, m4]
          · rw [ud_n (by decide)]; exact m6
    · refine ⟨2, B, L, wd, hG, ?_, ?_⟩
      · refine (CO.mono (v := 0) (CO_thr (s' := s) (x := x) (Q' := Q) (c := .inr (.inr (.inr (10, [])))) hS hC rfl (fun _ _ => rfl) (by decide)) ?_).cu
        unfold f_Law_poke b_Law_poke_0 f_Zip_poke b_Zip_poke_0
        simp only [wo_Z, wg_Z, Option.bind_some, R_o hr, rw_hasY F hrw hj]
        rw [if_neg (by decide), isByte_, if_neg hb, Option.bind_some]
        simp only []
        rw [if_pos trivial]
        simp only [Option.bind_some]
        rw [if_neg (exc_no (by decide)), if_pos exc_at]
      · intro J1 A1 s1 Q1 S1 M1
        refine ⟨pj J1 39 0 2, A1, ?_, S1, MI_0 M1 2, pj_s, fun o ho => pj_row (by omega), fun i hi => rfl⟩
        unfold f_Model_poke b_Model_poke_0
        simp only [wg_M, Option.bind_some]
        rw [M1.2.2.1, hw, if_pos hin, Option.bind_some]
        simp only []
        rw [if_neg (by decide), hv, if_neg hb, Option.bind_some]
        simp only []
        rw [if_pos trivial]
        unfold b_Model_poke_38
        simp only [wp_M, wg_M, Option.bind_some]
        rw [pj_s, if_neg (by decide)]
  · refine ⟨1, B, L, wd, hG, ?_, ?_⟩
    · refine (CO.mono (v := 0) (CO_thr (s' := s) (x := x) (Q' := Q) (c := .inr (.inr (.inr (12, [])))) hS hC rfl (fun _ _ => rfl) (by decide)) ?_).cu
      unfold f_Law_poke b_Law_poke_0 f_Zip_poke b_Zip_poke_0
      simp only [wo_Z, wg_Z, Option.bind_some, R_o hr, rw_hasN F hrw hn]
      rw [if_pos trivial]
      simp only [Option.bind_some]
      rw [if_pos exc_at]
    · intro J1 A1 s1 Q1 S1 M1
      refine ⟨pj J1 39 0 1, A1, ?_, S1, MI_0 M1 1, pj_s, fun o ho => pj_row (by omega), fun i hi => rfl⟩
      unfold f_Model_poke b_Model_poke_0
      simp only [wg_M, Option.bind_some]
      rw [M1.2.2.1, hw, if_neg hn, Option.bind_some]
      simp only []
      rw [if_pos trivial]
      unfold b_Model_poke_38
      simp only [wp_M, wg_M, Option.bind_some]
      rw [pj_s, if_neg (by decide)]
