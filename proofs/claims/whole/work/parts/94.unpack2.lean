/-! unpack. -/
section Tc
variable {J : yJ} {A : yA} {s : Nat} {Q : zW} {F : Nat} {B L O : List Int32} {wd : Int32}
theorem m_tc_l (hS : Sh A) (h1 : J 39 1 = nI O.length) (h42 : (A 42).take O.length = O) (hO : O.length ≤ 200) : ∀ (m k : Nat), k ≤ O.length → O.length - k < m → l_Model_takeContent_10 F m 39 (nI k) (YW J (ud A 40 (wr (A 40) 0 (O.take k))) s Q) = some (nI O.length, YW J (ud A 40 (wr (A 40) 0 O)) s Q) := by
  intro m
  induction m with
  | zero => intro k _ h2; omega
  | succ m ih =>
    intro k hk hm
    have hl : (A 40).length = 200 := hS 40
    show b_Model_takeContent_10 F (l_Model_takeContent_10 F m) 39 (nI k) _ = _
    unfold b_Model_takeContent_10
    simp only [wg_M, Option.bind_some, h1]
    have ht : (O.take k).length = k := by rw [List.length_take]; omega
    by_cases hlt : k < O.length
    · have hg : aget (YW J (ud A 40 (wr (A 40) 0 (O.take k))) s Q) 42 (nI k) = some O[k] := ag_ (by decide) (by omega) (by rw [ud_n (by decide)]; exact take_get h42 hlt)
      rw [if_neg (nI_ge hlt (by omega)), hg, Option.bind_some, as_ (by decide) (by rw [ud_s, wr_len (by omega)]; omega) (by rw [ud_s, wr_len (by omega)]; omega), Option.bind_some, nI_1, ud_ud, ud_s, wr_set (by rw [wr_len (by omega)]; omega)]
      have e := wr_wr (xs := A 40) (n := 0) (X := O.take k) (Y := [O[k]]) (by rw [List.length_singleton]; omega)
      rw [Nat.zero_add, ht] at e
      rw [e, List.take_append_getElem hlt]
      exact ih (k + 1) (by omega) (by omega)
    · rw [if_pos (nI_le (by omega) (by omega)), List.take_of_length_le (by omega)]
theorem m_takeContent (hF : 20000 ≤ F) (hS : Sh A) (hM : MI J A B L wd) (h6 : J 39 6 = nI O.length) (h42 : (A 42).take O.length = O) (hO : O.length ≤ 200) : ∃ J' A', f_Model_takeContent F 39 (YW J A s Q) = some (nI O.length, YW J' A' s Q) ∧ Sh A' ∧ MI J' A' O L wd ∧ J' 39 0 = J 39 0 ∧ (∀ o, o < 39 → J' o = J o) ∧ ∀ j, j < 40 → A' j = A j := by
  have hl : (A 40).length = 200 := hS 40
  have e := m_tc_l (F := F) (J := pj J 39 1 (nI O.length)) (s := s) (Q := Q) hS pj_s h42 hO F 0 (Nat.zero_le _) (by omega)
  rw [List.take_zero, wr_nil, ud_id rfl] at e
  obtain ⟨c1, c2, c3, c4, c5, c6⟩ := hM
  refine ⟨pj J 39 1 (nI O.length), ud A 40 (wr (A 40) 0 O), ?_, hS.ud (wr_len (by omega)), ⟨pj_s, ?_, ?_, ?_, ?_, ?_⟩, pj_k (by decide), fun o ho => pj_row (by omega), fun j hj => ud_n (by omega)⟩
  · unfold f_Model_takeContent b_Model_takeContent_0
    simp only [wg_M, wp_M, Option.bind_some]
    rw [h6]
    exact e
  · rw [ud_s]; exact wr0_take (by omega)
  · rw [pj_k (by decide)]; exact c3
  · rw [ud_n (by decide)]; exact c4
  · rw [pj_k (by decide)]; exact c5
  · rw [ud_n (by decide)]; exact c6
theorem MI_fr {J' : yJ} {A' : yA} (hM : MI J A B L wd) (h : mfr J A J' A') : MI J' A' B L wd := by
  obtain ⟨c1, c2, c3, c4, c5, c6⟩ := hM
  refine ⟨?_, ?_, ?_, ?_, ?_, ?_⟩
  · rw [h.2.2.1 1 (by decide) (by decide) (by decide)]; exact c1
  · rw [h.2.2.2 40 (by omega)]; exact c2
  · rw [h.2.2.1 3 (by decide) (by decide) (by decide)]; exact c3
  · rw [h.2.2.2 41 (by omega)]; exact c4
  · rw [h.2.2.1 5 (by decide) (by decide) (by decide)]; exact c5
  · rw [h.2.2.2 47 (by omega)]; exact c6
theorem srm_of (h8 : J 39 8 = nI O.length) (h43 : (A 43).take O.length = O) (hO : O.length ≤ 1600) (hb : ∀ b ∈ O, isB b) : Srm J A O := by
  refine ⟨fun i hi => ?_, h8, hO, hb⟩
  rw [take_get h43 hi, ← List.getElem?_eq_getElem hi]
  exact (getB hb hi).2
/-- the buffer laid into what is to be given out -/
theorem m_up_l (hS : Sh A) (h1 : J 39 1 = nI B.length) (h40 : (A 40).take B.length = B) (hB : B.length ≤ 200) : ∀ (m k : Nat), k ≤ B.length → B.length - k < m → l_Model_unpack_10 F m 39 (nI k) (YW J (ud A 43 (wr (A 43) 0 (B.take k))) s Q) = ((zobj (YW J (ud A 43 (wr (A 43) 0 B)) s Q) 39 9).bind fun _ => (f_Model_unpacked F 39 (YW J (ud A 43 (wr (A 43) 0 B)) s Q)).bind fun r38 => if r38.1 = 0 then (b_Model_unpack_49 F 39 39 (1 : Int32) r38.2) else (b_Model_unpack_49 F 39 39 (0 : Int32) r38.2)) := by
  intro m
  induction m with
  | zero => intro k _ h2; omega
  | succ m ih =>
    intro k hk hm
    have hl : (A 43).length = 1600 := hS 43
    show b_Model_unpack_10 F (l_Model_unpack_10 F m) 39 (nI k) _ = _
    unfold b_Model_unpack_10
    simp only [wg_M, Option.bind_some, h1]
    have ht : (B.take k).length = k := by rw [List.length_take]; omega
    by_cases hlt : k < B.length
    · have hg : aget (YW J (ud A 43 (wr (A 43) 0 (B.take k))) s Q) 40 (nI k) = some B[k] := ag_ (by decide) (by omega) (by rw [ud_n (by decide)]; exact take_get h40 hlt)
      rw [if_neg (nI_ge hlt (by omega)), hg, Option.bind_some, as_ (by decide) (by rw [ud_s, wr_len (by omega)]; omega) (by rw [ud_s, wr_len (by omega)]; omega), Option.bind_some, nI_1, ud_ud, ud_s, wr_set (by rw [wr_len (by omega)]; omega)]
      have e := wr_wr (xs := A 43) (n := 0) (X := B.take k) (Y := [B[k]]) (by rw [List.length_singleton]; omega)
      rw [Nat.zero_add, ht] at e
      rw [e, List.take_append_getElem hlt]
      exact ih (k + 1) (by omega) (by omega)
    · rw [if_pos (nI_le (by omega) (by omega)), List.take_of_length_le (by omega)]
/-- the class's answer 'given' becomes the buffer -/
theorem c_given (hS : Sh A) (hC : CI J A B L wd) (h7 : J 7 1 = nI O.length) (h8 : (A 8).take O.length = O) (hO : O.length ≤ 200) : ∃ J' A', f_Row_become F 1 7 (YW J A s Q) = some ((), YW J' A' s Q) ∧ Sh A' ∧ CI J' A' O L wd ∧ J' 39 = J 39 ∧ ∀ j, 40 ≤ j → A' j = A j := by
  have hl : (A 2).length = 200 := hS 2
  obtain ⟨c1, c2, c3, c4, c5⟩ := hC
  refine ⟨_, _, W_become (Or.inl ⟨rfl, rfl⟩) r78 (by decide) hS h7 h8 hO, hS.ud (wr_len (by omega)), ⟨pj_s, ?_, ?_, ?_, ?_⟩, ?_, ?_⟩
  · rw [ud_s]; exact wr0_take (by omega)
  · rw [pj_o (by decide), pj_o (by decide)]; exact c3
  · rw [ud_n (by decide)]; exact c4
  · rw [pj_o (by decide), pj_o (by decide)]; exact c5
  · rw [pj_row (by decide), pj_row (by decide)]
  · intro j hj; exact ud_n (by omega)
theorem CI_cfr {J' : yJ} {A' : yA} (hC : CI J A B L wd) (h : cfr J A J' A') : CI J' A' B L wd := by
  obtain ⟨c1, c2, c3, c4, c5⟩ := hC
  refine ⟨?_, ?_, ?_, ?_, ?_⟩
  · rw [h.2.1 1 (by decide) (by decide)]; exact c1
  · rw [h.2.2 2 (by omega)]; exact c2
  · rw [h.2.1 3 (by decide) (by decide)]; exact c3
  · rw [h.2.2 4 (by omega)]; exact c4
  · rw [h.2.1 35 (by decide) (by decide)]; exact c5
end Tc
theorem c_unpack {J : yJ} {A : yA} {s : Nat} {x : Int64} {Q : zW} {B L : List Int32} {wd : Int32} {F : Nat} (hF : 20000 ≤ F) (hS : Sh A) (hC : CI J A B L wd) (hG : GI B L wd) :
    (∀ O, unS B = some O → CO J A (f_Law_unpack F 0 60 (YW J A s (.inr (.inl [x]) :: Q))) 0 (nI O.length) O L wd) ∧
    (unS B = none → CO J A (f_Law_unpack F 0 60 (YW J A s (.inr (.inl [x]) :: Q))) 1 0 B L wd) := by
  have hl : (A 2).length = 200 := hS 2
  have hB := hG.2.1
  have hu := c_unpacks (F := F) (J := J) (A := A) (s := s) (Q := .inr (.inl [x]) :: Q) (r := 1) (a := 2) (st := 0) (C := B) hF hS (Or.inl ⟨rfl, rfl⟩) (by decide) (by decide) hG.2.2.2.1 ⟨B.length, hC.1, by omega, hB⟩ (fun i hi => by rw [Nat.zero_add, take_get hC.2.1 hi, List.getElem?_eq_getElem hi])
  rw [Nat.zero_add, show (nI 0 : Int32) = 0 from rfl] at hu
  refine ⟨?_, ?_⟩
  · intro O e
    obtain ⟨J1, A1, e1, f1, f2, f3⟩ := hu.1 O e
    have hO := unS_ok hG.2.2.2.1 e
    obtain ⟨J2, A2, e2, S2, C2, j2, a2⟩ := c_given (F := F) (s := 1) (Q := .inr (.inl [x]) :: Q) f1.1 (CI_cfr hC f1) f2 f3 hO.1
    refine CO.mono (CO_ret (s' := 1) (x := x) (Q' := Q) S2 C2 (by rw [j2]; exact f1.2.1 39 (by decide) (by decide)) (fun j hj => by rw [a2 j hj]; exact f1.2.2 j (by omega))) ?_
    unfold f_Law_unpack b_Law_unpack_0 f_Zip_unpack b_Zip_unpack_0
    simp only [wo_Z, wg_Z, wg_R, wo_U, Option.bind_some, hC.1, e1]
    rw [if_neg (show ¬ (1 : Int32) = 0 by decide)]
    simp only [wo_R, wg_Z, Option.bind_some, e2, wg_R, C2.1]
  · intro e
    obtain ⟨J1, A1, e1, f1⟩ := hu.2 e
    refine CO.mono (CO_thr (s' := 1) (x := x) (Q' := Q) (c := .inr (.inr (.inr (13, [])))) f1.1 (CI_cfr hC f1) (f1.2.1 39 (by decide) (by decide)) (fun j hj => f1.2.2 j (by omega)) (by decide)) ?_
    unfold f_Law_unpack b_Law_unpack_0 f_Zip_unpack b_Zip_unpack_0
    simp only [wo_Z, wg_Z, wg_R, wo_U, Option.bind_some, hC.1, e1]
    rw [if_pos trivial]
    simp only [Option.bind_some]
    rw [if_pos exc_at]
theorem m_unpack {J : yJ} {A : yA} {s : Nat} {Q : zW} {B L : List Int32} {wd : Int32} {F : Nat} (hF : 20000 ≤ F) (hS : Sh A) (hM : MI J A B L wd) (hG : GI B L wd) :
    (∀ O, unS B = some O → MO J A s Q (f_Model_unpack F 39 (YW J A s Q)) 0 (nI O.length) O L wd) ∧
    (unS B = none → MO J A s Q (f_Model_unpack F 39 (YW J A s Q)) 1 0 B L wd) := by
  have hl : (A 43).length = 1600 := hS 43
  have hB := hG.2.1
  have S1 : Sh (ud A 43 (wr (A 43) 0 B)) := hS.ud (wr_len (by omega))
  have M1 : MI (pj J 39 8 (nI B.length)) (ud A 43 (wr (A 43) 0 B)) B L wd := by
    obtain ⟨c1, c2, c3, c4, c5, c6⟩ := hM
    refine ⟨by rw [pj_k (by decide)]; exact c1, by rw [ud_n (by decide)]; exact c2, by rw [pj_k (by decide)]; exact c3, by rw [ud_n (by decide)]; exact c4, by rw [pj_k (by decide)]; exact c5, by rw [ud_n (by decide)]; exact c6⟩
  have hsrm : Srm (pj J 39 8 (nI B.length)) (ud A 43 (wr (A 43) 0 B)) B := srm_of pj_s (by rw [ud_s]; exact wr0_take (by omega)) (by omega) hG.2.2.2.1
  have hu := m_unpacked (F := F) (s := s) (Q := Q) hF S1 M1.2.2.2.2.2 hsrm
  have e0 := m_up_l (F := F) (J := pj J 39 8 (nI B.length)) (s := s) (Q := Q) hS (by rw [pj_k (by decide)]; exact hM.1) hM.2.1 hB F 0 (Nat.zero_le _) (by omega)
  rw [List.take_zero, wr_nil, ud_id rfl, show (nI 0 : Int32) = 0 from rfl] at e0
  have hpre : f_Model_unpack F 39 (YW J A s Q) = l_Model_unpack_10 F F 39 0 (YW (pj J 39 8 (nI B.length)) A s Q) := by
    unfold f_Model_unpack b_Model_unpack_0
    simp only [wg_M, wp_M, Option.bind_some, hM.1]
  rw [hpre, e0]
  simp only [wo_M, Option.bind_some]
  refine ⟨?_, ?_⟩
  · intro O e
    obtain ⟨J1, A1, e1, f1, f2, f3⟩ := hu.1 O e
    have hO := unS_ok hG.2.2.2.1 e
    obtain ⟨J2, A2, g1, g2, g3, g4, g5, g6⟩ := m_takeContent (F := F) (J := pj J1 39 0 0) (A := A1) (s := s) (Q := Q) (O := O) hF f1.1 (MI_0 (MI_fr M1 f1) 0) (by rw [pj_k (by decide)]; exact f2) f3 hO.1
    refine ⟨J2, A2, nI O.length, ?_, g2, g3, by rw [g4, pj_s], fun _ => rfl, ?_, ?_⟩
    · rw [e1, Option.bind_some]
      simp only []
      rw [if_neg (show ¬ (1 : Int32) = 0 by decide)]
      unfold b_Model_unpack_49
      simp only [wp_M, wg_M, wo_M, Option.bind_some]
      rw [pj_s, if_pos (by decide), g1, Option.bind_some]
    · intro o ho
      rw [g5 o ho, pj_row (by omega), f1.2.1 o (by omega), pj_row (by omega)]
    · intro j hj
      rw [g6 j hj, f1.2.2.2 j (by omega), ud_n (by omega)]
  · intro e
    obtain ⟨J1, A1, e1, f1⟩ := hu.2 e
    refine ⟨pj J1 39 0 1, A1, 0, ?_, f1.1, MI_0 (MI_fr M1 f1) 1, pj_s, fun q => absurd q (by decide), ?_, ?_⟩
    · rw [e1, Option.bind_some]
      simp only []
      rw [if_pos trivial]
      unfold b_Model_unpack_49
      simp only [wp_M, wg_M, wo_M, Option.bind_some]
      rw [pj_s, if_neg (by decide)]
    · intro o ho
      rw [pj_row (by omega), f1.2.1 o (by omega), pj_row (by omega)]
    · intro j hj
      rw [f1.2.2.2 j (by omega), ud_n (by omega)]
theorem step_443 : StepAt b_Law_law_443 := by
  intro F sc K k w hF hl hk hI
  unfold b_Law_law_443
  refine call_step (fun w => f_Law_unpack F 0 60 w) (fun w => f_Model_unpack F 39 w) hI ?_
  intro J A s x Q B L wd hS hC hM hG
  have c := c_unpack (s := s) (x := x) (Q := Q) hF hS hC hG
  cases e : unS B with
  | none => exact ⟨1, 0, B, L, wd, hG, c.2 e, fun J1 A1 s1 Q1 S1 M1 => (m_unpack hF S1 M1 hG).2 e⟩
  | some O =>
    have hO := unS_ok hG.2.2.2.1 e
    exact ⟨0, nI O.length, O, L, wd, GI_buf hG hO.1 hO.2, c.1 O e, fun J1 A1 s1 Q1 S1 M1 => (m_unpack hF S1 M1 hG).1 O e⟩
