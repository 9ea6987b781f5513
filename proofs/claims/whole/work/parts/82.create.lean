/-! create; what becomes the file. -/
theorem isB_app {X Y : List Int32} (h1 : ∀ b ∈ X, isB b) (h2 : ∀ b ∈ Y, isB b) : ∀ b ∈ X ++ Y, isB b := fun b hb => (List.mem_append.mp hb).elim (h1 b) (h2 b)
theorem isB_wE (n ds sz z : Int32) : ∀ b ∈ wE n ds sz z, isB b := by
  unfold wE
  refine isB_app (isB_app (isB_app (isB_app (isB_app (isB_app (isB_app (isB_app (isB_app (isB_app (isB_app ?_ ?_) ?_) ?_) ?_) ?_) ?_) ?_) ?_) ?_) ?_) ?_ <;> exact isB_lbs
theorem isB_nE (wd n ds sz rm : Int32) : ∀ b ∈ nE wd n ds sz rm, isB b := by
  unfold nE
  refine isB_app (isB_app (isB_app (isB_app (isB_app (isB_app ?_ ?_) ?_) ?_) ?_) ?_) ?_ <;> exact isB_lbs
theorem isB_eE (wd n ds z rm : Int32) : ∀ b ∈ eE wd n ds z rm, isB b := by
  unfold eE
  refine isB_app ?_ (isB_nE _ _ _ _ _)
  by_cases h : wd = 0
  · rw [if_pos h]; intro b hb; cases hb
  · rw [if_neg h]; exact isB_wE _ _ _ _
section Cr
variable {J : yJ} {A : yA} {s : Nat} {Q : zW} {F : Nat} {B L T : List Int32} {wd : Int32}
theorem r34 : isR 3 4 := Or.inr (Or.inl ⟨rfl, rfl⟩)
theorem dw_0 : YW (pj (pj J 36 1 0) 36 2 0) A s Q = dw J A s Q ([], 0) := by
  unfold dw
  show _ = YW (pj (pj J 36 1 0) 36 2 0) (ud A 37 (wr (A 37) 0 [])) s Q
  rw [wr_nil, ud_id rfl]
theorem Rp_0 : Rp ([], 0) [] := Or.inl ⟨Nat.zero_le _, rfl⟩
theorem c_begin (hS : Sh A) (h3 : J 3 1 = nI L.length) (h4 : (A 4).take L.length = L) {k : Nat} (hk : k ≤ L.length) : ∃ st, f_Writer_begin F 35 3 (nI k) (YW J A s Q) = some ((), dw J A s Q st) ∧ Rp st (L.take k) := by
  have hl : (A 4).length = 1600 := hS 4
  have hL : L.length ≤ 1600 := by
    have := congrArg List.length h4
    rw [List.length_take] at this
    omega
  have e := dw_part (J := J) (A := A) (s := s) (Q := Q) (F := F) (st := ([], 0)) (p := 0) (q := k) r34 (by decide) (by decide) hS h3 hL (Nat.zero_le _) hk
  have e2 : ((A 4).drop 0).take (k - 0) = L.take k := by
    rw [List.drop_zero, Nat.sub_zero, ← h4, List.take_take, Nat.min_eq_left hk]
  rw [e2] at e
  refine ⟨_, ?_, by have := Rp_0.p (X := L.take k); rw [List.nil_append] at this; exact this⟩
  unfold f_Writer_begin b_Writer_begin_0
  simp only [wg_T, Option.bind_some]
  rw [R_o r36, Option.bind_some, W_empty r36, Option.bind_some, dw_0]
  simp only [dw_g, Option.bind_some]
  rw [show (nI 0 : Int32) = 0 from rfl] at e
  rw [e, Option.bind_some]
theorem c_becomes (hS : Sh A) (hC : CI J A B L wd) (hT : T.length ≤ 1600) : ∃ J' A', f_Row_become F 3 36 (dw J A s Q (T, 0)) = some ((), YW J' A' s Q) ∧ Sh A' ∧ CI J' A' B T wd ∧ J' 39 = J 39 ∧ ∀ j, 40 ≤ j → A' j = A j := by
  have hl : (A 37).length = 1600 := hS 37
  have hl4 : (A 4).length = 1600 := hS 4
  obtain ⟨c1, c2, c3, c4, c5⟩ := hC
  have e := W_become (J := pj (pj J 36 1 (sZ (T, 0))) 36 2 0) (A := ud A 37 (wr (A 37) 0 (T.take 1600))) (s := s) (Q := Q) (F := F) (C := T) r34 r36 (by decide) (dw_S (st := (T, 0)) hS) (by show nI (T.take 1600).length = _; rw [t16 hT]) (by rw [ud_s, t16 hT]; exact wr0_take (by omega)) hT
  refine ⟨_, _, e, (dw_S (st := (T, 0)) hS).ud (by rw [wr_len (by rw [ud_n (by decide)]; omega)]), ⟨?_, ?_, ?_, ?_, ?_⟩, ?_, ?_⟩
  · rw [pj_o (by decide), pj_o (by decide), pj_o (by decide), pj_o (by decide)]; exact c1
  · rw [ud_n (by decide), ud_n (by decide)]; exact c2
  · rw [pj_s]
  · rw [ud_s, ud_n (by decide)]; exact wr0_take (by omega)
  · rw [pj_o (by decide), pj_o (by decide), pj_o (by decide), pj_o (by decide)]; exact c5
  · rw [pj_row (by decide), pj_row (by decide), pj_row (by decide), pj_row (by decide)]
  · intro j hj
    rw [ud_n (by omega), ud_n (by omega)]
theorem m_becomes (hF : 20000 ≤ F) (hS : Sh A) (hM : MI J A B L wd) (hT : T.length ≤ 1600) : ∃ J' A', f_Model_takeDraft F 39 (md J A s Q T) = some ((), YW J' A' s Q) ∧ Sh A' ∧ MI J' A' B T wd ∧ (∀ k, k ≠ 3 → k ≠ 31 → J' 39 k = J 39 k) ∧ (∀ o, o < 39 → J' o = J o) ∧ ∀ j, j < 40 → A' j = A j := by
  have hl : (A 59).length = 1700 := hS 59
  have hl4 : (A 41).length = 1600 := hS 41
  obtain ⟨c1, c2, c3, c4, c5, c6⟩ := hM
  refine ⟨_, _, m_takeDraft hF hS hT, (md_S hS (by omega)).ud (by rw [ud_n (by decide), wr_len (by omega)]), ⟨?_, ?_, ?_, ?_, ?_, ?_⟩, ?_, ?_, ?_⟩
  · rw [pj_k (by decide), pj_k (by decide)]; exact c1
  · rw [ud_n (by decide), ud_n (by decide)]; exact c2
  · rw [pj_s]
  · rw [ud_s]; exact wr0_take (by omega)
  · rw [pj_k (by decide), pj_k (by decide)]; exact c5
  · rw [ud_n (by decide), ud_n (by decide)]; exact c6
  · intro k h1 h2
    rw [pj_k h1, pj_k h2]
  · intro o ho
    rw [pj_row (by omega), pj_row (by omega)]
  · intro j hj
    rw [ud_n (by omega), ud_n (by omega)]
theorem md_0 : YW (pj J 39 31 0) A s Q = md J A s Q [] := by
  unfold md
  rw [wr_nil, ud_id rfl]
  rfl
end Cr
theorem step_487 : StepAt b_Law_law_487 := by
  intro F sc K k w hF hl hk hI
  obtain ⟨J, A, s, x, Q, B, L, wd, rfl, hS, hC, hM, hG⟩ := II_YW hI
  have hL : (eE wd 0 0 (nI 0) 0).length ≤ 1600 := by
    rw [eE_len]
    by_cases h : wd = 0
    · rw [if_pos h]; decide
    · rw [if_neg h]; decide
  obtain ⟨st, b1, b2⟩ := c_begin (F := F) (s := s) (Q := .inr (.inl [x]) :: Q) hS hC.2.2.1 hC.2.2.2.1 (Nat.zero_le _)
  rw [List.take_zero] at b2
  have b3 := b2.n (X := eE wd 0 0 (nI 0) 0)
  rw [List.nil_append] at b3
  have b4 : sN st (eE wd 0 0 (nI 0) 0) = (eE wd 0 0 (nI 0) 0, 0) := by
    rcases b3 with q | q
    · exact q.2
    · omega
  obtain ⟨J1, A1, e1, S1, C1, j1, a1⟩ := c_becomes (F := F) (s := s) (Q := .inr (.inl [x]) :: Q) hS hC hL
  have M1 := MI_eq hM j1 a1
  have M1' := MI_0 M1 0
  obtain ⟨J2, A2, e2, S2, M2, k2, j2, a2⟩ := m_becomes (F := F) (s := s) (Q := .inr (.inl [x]) :: Q) hF S1 M1' hL
  refine ⟨YW J2 A2 s (.inr (.inl [x]) :: Q), YW_II S2 (CI_eq (CI_eq C1 (fun o ho => pj_row (by omega)) (fun _ _ => rfl)) j2 a2) M2 (GI_file hG hL (isB_eE _ _ _ _ _)), ?_⟩
  unfold b_Law_law_487 f_Zip_create b_Zip_create_0
  simp only [wo_Z, wg_Z, wo_T, Option.bind_some]
  rw [show (0 : Int32) = nI 0 from rfl, b1, Option.bind_some]
  simp only [dw_g, Option.bind_some, dw_writeEnd hF hS]
  rw [hC.2.2.2.2, b2.z (by decide)]
  rw [show (nI ([] : List Int32).length) = nI 0 from rfl]
  rw [show (nI 0) = (0 : Int32) from rfl] at b4 e1 e2 ⊢
  rw [b4]
  simp only [e1, Option.bind_some, wo_M]
  unfold f_Model_create b_Model_create_0
  simp only [wp_M, Option.bind_some]
  rw [md_0]
  simp only [md_o]
  rw [m_putEnd hF S1 0 0 0 (by decide), Option.bind_some]
  simp only [md_o, List.nil_append]
  rw [show pj J1 39 0 0 39 5 = wd from M1'.2.2.2.2.1, show (nI ([] : List Int32).length) = 0 from rfl, e2, Option.bind_some, Option.bind_some, l1123]
