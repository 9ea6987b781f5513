/-! count, about. -/
theorem FI_of {J : yJ} {A : yA} {B L : List Int32} {wd : Int32} (hS : Sh A) (hC : CI J A B L wd) (hG : GI B L wd) : FI J A L := ⟨hS, hC.2.2.1, hC.2.2.2.1, hG.2.2.1, hG.2.2.2.2⟩
theorem GF_of {J : yJ} {A : yA} {B L : List Int32} {wd : Int32} (hS : Sh A) (hM : MI J A B L wd) (hG : GI B L wd) : GF J A L := ⟨hS, hM.2.2.1, hM.2.2.2.1, hG.2.2.1, hG.2.2.2.2⟩
theorem CI_rd {J J' : yJ} {A : yA} {B L : List Int32} {wd : Int32} (hC : CI J A B L wd) (h : ∀ o, o ≠ 24 → o ≠ 25 → ¬ (27 ≤ o ∧ o < 35) → J' o = J o) : CI J' A B L wd := by
  obtain ⟨a1, a2, a3, a4, a5⟩ := hC
  refine ⟨?_, a2, ?_, a4, ?_⟩
  · rw [h 1 (by decide) (by decide) (by omega)]; exact a1
  · rw [h 3 (by decide) (by decide) (by omega)]; exact a3
  · rw [h 35 (by decide) (by decide) (by omega)]; exact a5
theorem MI_op {J J' : yJ} {A A' : yA} {B L : List Int32} {wd : Int32} (hM : MI J A B L wd) (h : ∀ j, j < 16 ∨ 20 ≤ j → J' 39 j = J 39 j) (hA : ∀ j, j < 48 ∨ 57 ≤ j → A' j = A j) : MI J' A' B L wd := by
  obtain ⟨a1, a2, a3, a4, a5, a6⟩ := hM
  refine ⟨?_, ?_, ?_, ?_, ?_, ?_⟩
  · rw [h 1 (by decide)]; exact a1
  · rw [hA 40 (by decide)]; exact a2
  · rw [h 3 (by decide)]; exact a3
  · rw [hA 41 (by decide)]; exact a4
  · rw [h 5 (by decide)]; exact a5
  · rw [hA 47 (by decide)]; exact a6
theorem opC_0 {L : List Int32} {x : Nat × Nat × Nat × List Ent} (h : opS L = some x) : opC L = 0 := by
  unfold opC
  rw [h]
  cases hf : feS L (L.length - 21) with
  | none =>
    unfold opS at h
    rw [hf] at h
    cases h
  | some e => rfl
theorem opC_n {L : List Int32} (h : opS L = none) : opC L = 1 ∨ opC L = 2 := by
  unfold opC
  rw [h]
  cases hf : feS L (L.length - 21) with
  | none => exact Or.inl rfl
  | some e => exact Or.inr rfl
section Ab
variable {J : yJ} {A : yA} {s : Nat} {Q : zW} {L : List Int32} {F : Nat}
/-- needArchive: refused, or read -/
theorem c_need (hF : 20000 ≤ F) (h : FI J A L) : ∃ J', (∀ o, o ≠ 24 → o ≠ 25 → ¬ (27 ≤ o ∧ o < 35) → J' o = J o) ∧ (opS L = none → f_Zip_needArchive F 0 (YW J A s Q) = some (.inr (YW J' A s Q).length, YW J' A s Q ++ [.inr (.inr (.inr (14, [])))])) ∧ ∀ e ds de es, opS L = some (e, ds, de, es) → f_Zip_needArchive F 0 (YW J A s Q) = some (.inl (), YW J' A s Q) ∧ J' 24 3 = nI es.length ∧ J' 24 4 = nI ds ∧ J' 24 5 = nI de ∧ J' 24 6 = nI (e + 22) ∧ CE J' es := by
  obtain ⟨J', r1, r2, r3⟩ := c_read (s := s) (Q := Q) hF h
  refine ⟨J', r2, ?_, ?_⟩
  · intro ho
    unfold f_Zip_needArchive b_Zip_needArchive_0
    simp only [wg_Z, wo_A, Option.bind_some, r1]
    rw [if_neg]
    rcases opC_n ho with e | e
    · rw [e]; decide
    · rw [e]; decide
  · intro e ds de es ho
    refine ⟨?_, r3 e ds de es ho⟩
    unfold f_Zip_needArchive b_Zip_needArchive_0
    simp only [wg_Z, wo_A, Option.bind_some, r1]
    rw [opC_0 ho, if_pos rfl]
end Ab
theorem step_745 : StepAt b_Law_law_745 := by
  intro F sc K k w hF hl hk hI
  unfold b_Law_law_745
  refine call_step (fun w => f_Law_count F 0 60 w) (fun w => f_Model_count F 39 w) hI ?_
  intro J A s x Q B L wd hS hC hM hG
  obtain ⟨J', o1, n1, y1⟩ := c_need (F := F) (s := s) (Q := .inr (.inl [x]) :: Q) hF (FI_of hS hC hG)
  have hC' := CI_rd hC o1
  have j39 : J' 39 = J 39 := o1 39 (by decide) (by decide) (by omega)
  cases ho : opS L with
  | none =>
    refine ⟨1, 0, B, L, wd, hG, ?_, ?_⟩
    · refine CO.mono (CO_thr (s' := s) (x := x) (Q' := Q) (c := .inr (.inr (.inr (14, [])))) hS hC' j39 (fun _ _ => rfl) (by decide)) ?_
      unfold f_Law_count b_Law_count_0 f_Zip_count b_Zip_count_0
      simp only [wo_Z, Option.bind_some, n1 ho]
      rw [if_pos exc_at]
    · intro J1 A1 s1 Q1 S1 M1
      obtain ⟨J2, A2, e2, S2, q1, q2, q3, -⟩ := m_open (s := s1) (Q := Q1) hF (GF_of S1 M1 hG)
      refine ⟨pj J2 39 0 1, A2, 0, ?_, S2, MI_0 (MI_op M1 q2 q3) 1, pj_s, fun q => absurd q (by decide), fun o ho => by rw [pj_row (by omega), q1 o (by omega)], fun j hj => q3 j (by omega)⟩
      unfold f_Model_count b_Model_count_0 b_Model_count_13
      simp only [wo_M, Option.bind_some, e2]
      have hc : ¬ opC L ≤ 0 := by
        rcases opC_n ho with e | e
        · rw [e]; decide
        · rw [e]; decide
      rw [if_neg hc]
      simp only [wp_M, wg_M, Option.bind_some]
      rw [pj_s, if_neg (by decide)]
  | some v =>
    obtain ⟨e, ds, de, es⟩ := v
    obtain ⟨e1, k3, k4, k5, k6, k7⟩ := y1 e ds de es ho
    refine ⟨0, nI es.length, B, L, wd, hG, ?_, ?_⟩
    · refine CO.mono (CO_ret (s' := s) (x := x) (Q' := Q) hS hC' j39 (fun _ _ => rfl)) ?_
      unfold f_Law_count b_Law_count_0 f_Zip_count b_Zip_count_0
      simp only [wo_Z, wg_Z, wg_A, Option.bind_some, e1, k3]
    · intro J1 A1 s1 Q1 S1 M1
      obtain ⟨J2, A2, e2, S2, q1, q2, q3, q4⟩ := m_open (s := s1) (Q := Q1) hF (GF_of S1 M1 hG)
      obtain ⟨t1, t2, -⟩ := q4 e ds de es ho
      refine ⟨pj J2 39 0 0, A2, nI es.length, ?_, S2, MI_0 (MI_op M1 q2 q3) 0, pj_s, fun _ => rfl, fun o ho => by rw [pj_row (by omega), q1 o (by omega)], fun j hj => q3 j (by omega)⟩
      unfold f_Model_count b_Model_count_0 b_Model_count_13
      simp only [wo_M, Option.bind_some, e2]
      rw [opC_0 ho, if_pos (by decide)]
      simp only [wp_M, wg_M, Option.bind_some]
      rw [pj_s, if_pos (by decide), pj_k (by decide), t2]
theorem n06 (n : Int32) : (∃ t, t ≤ 6 ∧ n = nI t) ∨ ¬ ((0 : Int32) ≤ n ∧ n ≤ 6) := by
  by_cases h : (0 : Int32) ≤ n ∧ n ≤ 6
  · obtain ⟨t, ht, rfl⟩ := nI_of (x := n) (Int32.not_lt.mpr h.1)
    exact Or.inl ⟨t, (nI_leI (b := 6) ht (by decide)).mp h.2, rfl⟩
  · exact Or.inr h
theorem step_789 : StepAt b_Law_law_789 := by
  intro F sc K k w hF hl hk hI
  unfold b_Law_law_789
  simp only [sg_ hl (show k + 1 < sc.length by omega) (show (1 : Int32) = nI 1 from rfl), sg_ hl (show k + 2 < sc.length by omega) (show (2 : Int32) = nI 2 from rfl), Option.bind_some]
  generalize sc[k + 1] = a
  generalize sc[k + 2] = b
  refine call_step (fun w => f_Law_about F 0 a b 60 w) (fun w => f_Model_about F 39 a b w) hI ?_
  intro J A s x Q B L wd hS hC hM hG
  obtain ⟨J', o1, n1, y1⟩ := c_need (F := F) (s := s) (Q := .inr (.inl [x]) :: Q) hF (FI_of hS hC hG)
  have hC' := CI_rd hC o1
  have j39 : J' 39 = J 39 := o1 39 (by decide) (by decide) (by omega)
  cases ho : opS L with
  | none =>
    refine ⟨1, 0, B, L, wd, hG, ?_, ?_⟩
    · refine CO.mono (CO_thr (s' := s) (x := x) (Q' := Q) (c := .inr (.inr (.inr (14, [])))) hS hC' j39 (fun _ _ => rfl) (by decide)) ?_
      unfold f_Law_about b_Law_about_0 f_Zip_about b_Zip_about_0
      simp only [wo_Z, Option.bind_some, n1 ho]
      rw [if_pos exc_at]
    · intro J1 A1 s1 Q1 S1 M1
      obtain ⟨J2, A2, e2, S2, q1, q2, q3, -⟩ := m_open (s := s1) (Q := Q1) hF (GF_of S1 M1 hG)
      refine ⟨pj J2 39 0 1, A2, 0, ?_, S2, MI_0 (MI_op M1 q2 q3) 1, pj_s, fun q => absurd q (by decide), fun o ho => by rw [pj_row (by omega), q1 o (by omega)], fun j hj => q3 j (by omega)⟩
      unfold f_Model_about b_Model_about_0 b_Model_about_49
      simp only [wo_M, Option.bind_some, e2]
      have hc : ¬ opC L ≤ 0 := by
        rcases opC_n ho with e | e
        · rw [e]; decide
        · rw [e]; decide
      rw [if_neg hc]
      simp only [wp_M, wg_M, Option.bind_some]
      rw [pj_s, if_neg (by decide)]
  | some v =>
    obtain ⟨e, ds, de, es⟩ := v
    obtain ⟨e1, k3, k4, k5, k6, k7⟩ := y1 e ds de es ho
    have hs := opS_some ho
    have h8 := hs.2.2.2.2.1
    have hw : ∀ (J1 : yJ) (A1 : yA) (s1 : Nat) (Q1 : zW), f_Model_within F a.toInt64 (0 : Int64) (nI es.length - 1).toInt64 (YW J1 A1 s1 Q1) = some (if 0 ≤ a ∧ a < nI es.length then 1 else 0, YW J1 A1 s1 Q1) := fun J1 A1 s1 Q1 => by
      rw [show (0 : Int64) = (0 : Int32).toInt64 from rfl, wi]
      simp only [lt_pred (x := a) (n := es.length) (by omega)]
    have hv : ∀ (J1 : yJ) (A1 : yA) (s1 : Nat) (Q1 : zW), f_Model_within F b.toInt64 (0 : Int64) (6 : Int64) (YW J1 A1 s1 Q1) = some (if (0 : Int32) ≤ b ∧ b ≤ 6 then 1 else 0, YW J1 A1 s1 Q1) := fun J1 A1 s1 Q1 => wi F (YW J1 A1 s1 Q1) b 0 6
    rcases in_cases a (n := es.length) (by omega) with ⟨i, hi, rfl⟩ | hn
    · have hin : 0 ≤ nI i ∧ nI i < nI es.length := ⟨nI_pos' (by omega), nI_lt hi (by omega)⟩
      have hi8 : i < 8 := by omega
      rcases n06 b with ⟨t, ht, rfl⟩ | hb
      · refine ⟨0, nI (es[i] t), B, L, wd, hG, ?_, ?_⟩
        · refine CO.mono (CO_ret (s' := s) (x := x) (Q' := Q) hS hC' j39 (fun _ _ => rfl)) ?_
          unfold f_Law_about b_Law_about_0 f_Zip_about b_Zip_about_0
          simp only [wo_Z, wg_Z, wg_A, Option.bind_some, e1, k3]
          rw [if_neg (Int32.not_lt.mpr hin.1), if_pos hin.2, w_ent _ _ _ _ hi8, Option.bind_some]
          have gg : ∀ j, j < 9 → getI (YW J' A s (.inr (.inl [x]) :: Q)) (27 + i) 1 j = some (nI (es[i] j)) := fun j hj => by rw [we_g _ _ _ _ hi8 hj, k7 i hi j hj]
          match t, ht with
          | 0, _ => rw [if_pos (by decide), gg 0 (by decide)]; rfl
          | 1, _ => rw [if_neg (by decide), if_pos (by decide), gg 1 (by decide)]; rfl
          | 2, _ => rw [if_neg (by decide), if_neg (by decide), if_pos (by decide), gg 2 (by decide)]; rfl
          | 3, _ => rw [if_neg (by decide), if_neg (by decide), if_neg (by decide), if_pos (by decide), gg 3 (by decide)]; rfl
          | 4, _ => rw [if_neg (by decide), if_neg (by decide), if_neg (by decide), if_neg (by decide), if_pos (by decide), gg 4 (by decide)]; rfl
          | 5, _ => rw [if_neg (by decide), if_neg (by decide), if_neg (by decide), if_neg (by decide), if_neg (by decide), if_pos (by decide), gg 5 (by decide)]; rfl
          | 6, _ => rw [if_neg (by decide), if_neg (by decide), if_neg (by decide), if_neg (by decide), if_neg (by decide), if_neg (by decide), if_pos (by decide), gg 6 (by decide)]; rfl
        · intro J1 A1 s1 Q1 S1 M1
          obtain ⟨J2, A2, e2, S2, q1, q2, q3, q4⟩ := m_open (s := s1) (Q := Q1) hF (GF_of S1 M1 hG)
          obtain ⟨t1, t2, t3, t4, t5⟩ := q4 e ds de es ho
          refine ⟨pj J2 39 0 0, A2, nI (es[i] t), ?_, S2, MI_0 (MI_op M1 q2 q3) 0, pj_s, fun _ => rfl, fun o ho => by rw [pj_row (by omega), q1 o (by omega)], fun j hj => q3 j (by omega)⟩
          unfold f_Model_about b_Model_about_0 b_Model_about_49
          simp only [wo_M, Option.bind_some, e2]
          rw [opC_0 ho, if_pos (by decide)]
          simp only [wg_M, Option.bind_some, t2]
          rw [hw, if_pos hin, Option.bind_some]
          simp only []
          rw [if_neg (by decide), hv, if_pos ⟨nI_pos' (by omega), nI_le (b := 6) ht (by decide)⟩, Option.bind_some]
          simp only []
          rw [if_neg (by decide)]
          simp only [wp_M, wg_M, Option.bind_some]
          rw [pj_s, if_pos (by decide)]
          have gg : ∀ j, j < 9 → aL (48 + j) ≠ 0 → aget (YW (pj J2 39 0 0) A2 s1 Q1) (48 + j) (nI i) = some (nI (es[i] j)) := fun j hj ha => ag_ ha (by omega) (t5 i hi j hj)
          match t, ht with
          | 0, _ => rw [if_pos (by decide), gg 0 (by decide) (by decide)]; rfl
          | 1, _ => rw [if_neg (by decide), if_pos (by decide), gg 1 (by decide) (by decide)]; rfl
          | 2, _ => rw [if_neg (by decide), if_neg (by decide), if_pos (by decide), gg 2 (by decide) (by decide)]; rfl
          | 3, _ => rw [if_neg (by decide), if_neg (by decide), if_neg (by decide), if_pos (by decide), gg 3 (by decide) (by decide)]; rfl
          | 4, _ => rw [if_neg (by decide), if_neg (by decide), if_neg (by decide), if_neg (by decide), if_pos (by decide), gg 4 (by decide) (by decide)]; rfl
          | 5, _ => rw [if_neg (by decide), if_neg (by decide), if_neg (by decide), if_neg (by decide), if_neg (by decide), if_pos (by decide), gg 5 (by decide) (by decide)]; rfl
          | 6, _ => rw [if_neg (by decide), if_neg (by decide), if_neg (by decide), if_neg (by decide), if_neg (by decide), if_neg (by decide), gg 6 (by decide) (by decide)]; rfl
      · refine ⟨3, 0, B, L, wd, hG, ?_, ?_⟩
        · refine CO.mono (CO_thr (s' := s) (x := x) (Q' := Q) (c := .inr (.inr (.inr (10, [])))) hS hC' j39 (fun _ _ => rfl) (by decide)) ?_
          unfold f_Law_about b_Law_about_0 f_Zip_about b_Zip_about_0
          simp only [wo_Z, wg_Z, wg_A, Option.bind_some, e1, k3]
          have hb' : ∀ t : Nat, t ≤ 6 → ¬ b = nI t := by
            rintro t ht rfl
            exact hb ⟨nI_pos' (by omega), nI_le (b := 6) ht (by decide)⟩
          rw [if_neg (Int32.not_lt.mpr hin.1), if_pos hin.2, w_ent _ _ _ _ hi8, Option.bind_some]
          rw [if_neg (show ¬ b = 0 from hb' 0 (by decide)), if_neg (show ¬ b = 1 from hb' 1 (by decide)), if_neg (show ¬ b = 2 from hb' 2 (by decide)), if_neg (show ¬ b = 3 from hb' 3 (by decide)), if_neg (show ¬ b = 4 from hb' 4 (by decide)), if_neg (show ¬ b = 5 from hb' 5 (by decide)), if_neg (show ¬ b = 6 from hb' 6 (by decide))]
          simp only [Option.bind_some]
          rw [if_neg (exc_no (by decide)), if_neg (exc_no (by decide)), if_pos exc_at]
        · intro J1 A1 s1 Q1 S1 M1
          obtain ⟨J2, A2, e2, S2, q1, q2, q3, q4⟩ := m_open (s := s1) (Q := Q1) hF (GF_of S1 M1 hG)
          obtain ⟨t1, t2, t3, t4, t5⟩ := q4 e ds de es ho
          refine ⟨pj J2 39 0 3, A2, 0, ?_, S2, MI_0 (MI_op M1 q2 q3) 3, pj_s, fun q => absurd q (by decide), fun o ho => by rw [pj_row (by omega), q1 o (by omega)], fun j hj => q3 j (by omega)⟩
          unfold f_Model_about b_Model_about_0 b_Model_about_49
          simp only [wo_M, Option.bind_some, e2]
          rw [opC_0 ho, if_pos (by decide)]
          simp only [wg_M, Option.bind_some, t2]
          rw [hw, if_pos hin, Option.bind_some]
          simp only []
          rw [if_neg (by decide), hv, if_neg hb, Option.bind_some]
          simp only []
          rw [if_pos trivial]
          simp only [wp_M, wg_M, Option.bind_some]
          rw [pj_s, if_neg (by decide)]
    · refine ⟨2, 0, B, L, wd, hG, ?_, ?_⟩
      · refine CO.mono (CO_thr (s' := s) (x := x) (Q' := Q) (c := .inr (.inr (.inr (12, [])))) hS hC' j39 (fun _ _ => rfl) (by decide)) ?_
        unfold f_Law_about b_Law_about_0 f_Zip_about b_Zip_about_0 b_Zip_about_19
        simp only [wo_Z, wg_Z, wg_A, Option.bind_some, e1, k3]
        have e3 : ∀ X : Option ((Int32 ⊕ Nat) × zW), (if a < 0 then (some (.inr (YW J' A s (.inr (.inl [x]) :: Q)).length, YW J' A s (.inr (.inl [x]) :: Q) ++ [.inr (.inr (.inr (12, [])))]) : Option ((Int32 ⊕ Nat) × zW)) else (if a < nI es.length then X else some (.inr (YW J' A s (.inr (.inl [x]) :: Q)).length, YW J' A s (.inr (.inl [x]) :: Q) ++ [.inr (.inr (.inr (12, [])))]))) = some (.inr (YW J' A s (.inr (.inl [x]) :: Q)).length, YW J' A s (.inr (.inl [x]) :: Q) ++ [.inr (.inr (.inr (12, [])))]) := by
          intro X
          by_cases h0 : a < 0
          · rw [if_pos h0]
          · rw [if_neg h0, if_neg (fun q => hn ⟨Int32.not_lt.mp h0, q⟩)]
        rw [e3, Option.bind_some]
        simp only []
        rw [if_neg (exc_no (by decide)), if_pos exc_at]
      · intro J1 A1 s1 Q1 S1 M1
        obtain ⟨J2, A2, e2, S2, q1, q2, q3, q4⟩ := m_open (s := s1) (Q := Q1) hF (GF_of S1 M1 hG)
        obtain ⟨t1, t2, t3, t4, t5⟩ := q4 e ds de es ho
        refine ⟨pj J2 39 0 2, A2, 0, ?_, S2, MI_0 (MI_op M1 q2 q3) 2, pj_s, fun q => absurd q (by decide), fun o ho => by rw [pj_row (by omega), q1 o (by omega)], fun j hj => q3 j (by omega)⟩
        unfold f_Model_about b_Model_about_0 b_Model_about_49
        simp only [wo_M, Option.bind_some, e2]
        rw [opC_0 ho, if_pos (by decide)]
        simp only [wg_M, Option.bind_some, t2]
        rw [hw, if_neg hn, Option.bind_some]
        simp only []
        rw [if_pos trivial]
        simp only [wp_M, wg_M, Option.bind_some]
        rw [pj_s, if_neg (by decide)]
