/-! add, by both. -/
theorem ME_fr {J J' : yJ} {A A' : yA} {es : List Ent} (h : ME A es) (f : mfr J A J' A') : ME A' es := by
  intro i hi j hj
  rw [f.2.2.2 (48 + j) (by omega)]
  exact h i hi j hj
theorem mfr_MO {J J1 : yJ} {A A1 : yA} {s : Nat} {Q : zW} {f : Option (Int32 × zW)} {k v : Int32} {B L : List Int32} {wd : Int32} (h : MO J1 A1 s Q f k v B L wd) (hj : ∀ o, o < 39 → J1 o = J o) (ha : ∀ j, j < 40 → A1 j = A j) : MO J A s Q f k v B L wd := by
  obtain ⟨J', A', b, h1, h2, h3, h4, h5, h6, h7⟩ := h
  exact ⟨J', A', b, h1, h2, h3, h4, h5, fun o ho => by rw [h6 o ho, hj o ho], fun j hj => by rw [h7 j hj, ha j hj]⟩
theorem m_31n {J : yJ} {A : yA} {s : Nat} {Q : zW} {B L : List Int32} {wd : Int32} {F : Nat} (hS : Sh A) (hM : MI J A B L wd) (y me v3 : Int32) {k : Int32} (hk : ¬ k ≤ 0) : MO J A s Q (b_Model_add_31 F 39 y me v3 39 k (YW J A s Q)) k 0 B L wd := by
  refine ⟨pj J 39 0 k, A, 0, ?_, hS, MI_0 hM k, pj_s, fun q => absurd (q ▸ Int32.le_refl _) hk, fun o ho => pj_row (by omega), fun j hj => rfl⟩
  unfold b_Model_add_31
  simp only [wp_M, wg_M, Option.bind_some]
  rw [pj_s, if_neg hk]
theorem m_add {J : yJ} {A : yA} {s : Nat} {Q : zW} {B L : List Int32} {wd : Int32} {F : Nat} (hF : 20000 ≤ F) (y me : Int32) (lt : Bool) (hS : Sh A) (hM : MI J A B L wd) (hG : GI B L wd) :
    (opS L = none → MO J A s Q (f_Model_add F 39 y me (bI lt) (YW J A s Q)) 1 0 B L wd) ∧
    ∀ e ds de es, opS L = some (e, ds, de, es) →
      ((∀ F w, 20000 ≤ F → f_Model_isName F y w = some (0, w)) → MO J A s Q (f_Model_add F 39 y me (bI lt) (YW J A s Q)) 2 0 B L wd) ∧
      ∀ n, isNam y n →
        (¬ (me = 0 ∨ me = 8) → MO J A s Q (f_Model_add F 39 y me (bI lt) (YW J A s Q)) 2 0 B L wd) ∧
        ((me = 0 ∨ me = 8) → ∀ z left nn, adS y es z left nn →
          (8 < nn → MO J A s Q (f_Model_add F 39 y me (bI lt) (YW J A s Q)) 3 0 B L wd) ∧
          (nn ≤ 8 → ((adL L B wd y me (nbN n) ds e lt left es (nI nn)).length ≤ 1600 → MO J A s Q (f_Model_add F 39 y me (bI lt) (YW J A s Q)) 0 (nI nn) B (adL L B wd y me (nbN n) ds e lt left es (nI nn)) wd) ∧ (1600 < (adL L B wd y me (nbN n) ds e lt left es (nI nn)).length → MO J A s Q (f_Model_add F 39 y me (bI lt) (YW J A s Q)) 3 0 B L wd))) := by
  obtain ⟨J2, A2, e2, S2, q1, q2, q3, q4⟩ := m_open (s := s) (Q := Q) hF (GF_of hS hM hG)
  have M2 := MI_op hM q2 q3
  have hj : ∀ o, o < 39 → J2 o = J o := fun o ho => q1 o (by omega)
  have ha : ∀ j, j < 40 → A2 j = A j := fun j hj => q3 j (by omega)
  refine ⟨?_, ?_⟩
  · intro ho
    have hc : ¬ opC L ≤ 0 := by
      rcases opC_n ho with e | e
      · rw [e]; decide
      · rw [e]; decide
    have : f_Model_add F 39 y me (bI lt) (YW J A s Q) = b_Model_add_31 F 39 y me (bI lt) 39 1 (YW J2 A2 s Q) := by
      unfold f_Model_add b_Model_add_0
      simp only [wo_M, Option.bind_some, e2]
      rw [if_neg hc]
    rw [this]
    exact mfr_MO (m_31n S2 M2 y me (bI lt) (by decide)) hj ha
  · intro e ds de es ho
    obtain ⟨t1, t2, t3, t4, t5⟩ := q4 e ds de es ho
    obtain ⟨-, -, -, hnd, h8, hd1, hd2, hd3⟩ := opS_some ho
    have hch := (opS_chn hG.2.2.2.2 ho).1
    refine ⟨?_, ?_⟩
    · intro hn
      have : f_Model_add F 39 y me (bI lt) (YW J A s Q) = b_Model_add_31 F 39 y me (bI lt) 39 2 (YW J2 A2 s Q) := by
        unfold f_Model_add b_Model_add_0 b_Model_add_26
        simp only [wo_M, Option.bind_some, e2]
        rw [opC_0 ho, if_pos (by decide), hn F _ hF, Option.bind_some]
        simp only []
        rw [if_pos trivial]
      rw [this]
      exact mfr_MO (m_31n S2 M2 y me (bI lt) (by decide)) hj ha
    · intro n hy
      refine ⟨?_, ?_⟩
      · intro hm
        have : f_Model_add F 39 y me (bI lt) (YW J A s Q) = b_Model_add_31 F 39 y me (bI lt) 39 2 (YW J2 A2 s Q) := by
          unfold f_Model_add b_Model_add_0 b_Model_add_26
          simp only [wo_M, Option.bind_some, e2]
          rw [opC_0 ho, if_pos (by decide), nam_m hy hF, Option.bind_some]
          simp only []
          rw [if_neg (show ¬ (1 : Int32) = 0 by decide), m_isE8, Option.bind_some, if_neg hm]
          simp only []
          rw [if_pos trivial]
        rw [this]
        exact mfr_MO (m_31n S2 M2 y me (bI lt) (by decide)) hj ha
      · intro hm z left nn hz
        have hfi : fiS (A2 48) y es.length = z := by
          rcases find_cases (xs := A2 48) y hnd (ME_48 t5) h8 with ⟨k, hk, -, f1, f2⟩ | ⟨f1, f2, -⟩
          · rw [f2, ← f1]; exact hz.1
          · rw [f2, ← f1]; exact hz.1
        have M3 := MI_0 M2 0
        obtain ⟨J4, A4, r1, r2, r3, r4⟩ := m_con (F := F) (J := pj J2 39 0 0) (A := A2) (s := s) (Q := Q) (y := y) (me := me) hF S2 M3.1 M3.2.1 hG.2.1 hG.2.2.2.1 (bI lt) z (nI nn)
        have hpre : f_Model_add F 39 y me (bI lt) (YW J A s Q) = b_Model_add_91 F 39 y me (bI lt) z (nI nn) (YW J4 A4 s Q) := by
          rw [← r1]
          unfold f_Model_add b_Model_add_0
          simp only [wo_M, Option.bind_some, e2]
          rw [opC_0 ho, if_pos (by decide), nam_m hy hF, Option.bind_some]
          simp only []
          rw [if_neg (show ¬ (1 : Int32) = 0 by decide), m_isE8, Option.bind_some, if_pos hm]
          simp only []
          rw [if_neg (show ¬ (1 : Int32) = 0 by decide)]
          unfold b_Model_add_31
          simp only [wp_M, wg_M, wo_M, Option.bind_some]
          rw [pj_s, if_pos (by decide), pj_k (by decide), t2, m_find hF S2 h8, Option.bind_some, hfi]
          simp only [wg_M, Option.bind_some]
          rw [pj_k (by decide), t2]
          rcases hz.2 with ⟨h1, h2, h3⟩ | ⟨h1, h2, h3⟩
          · rw [h2, if_pos (nI_pos' (by omega)), h3]
          · rw [h1, if_neg (by decide), nI_1, h3]
        have u := fun k (h1 : k ≠ 6) (h2 : k ≠ 10) (h3 : k ≠ 11) => r2.2.2.1 k h1 h2 h3
        have key := m_141 (F := F) (J := J4) (A := A4) (s := s) (Q := Q) (y := y) (me := me) (z := z) (n := n) (ds := ds) (de := de) (e := e) (left := left) (nn := nn) (lt := lt) (es := es) hF r2.1 (MI_fr M3 r2) hG hy (by rw [u 0 (by decide) (by decide) (by decide), pj_s]) r3 r4 (by rw [u 16 (by decide) (by decide) (by decide), pj_k (by decide)]; exact t1) (by rw [u 17 (by decide) (by decide) (by decide), pj_k (by decide)]; exact t2) (by rw [u 18 (by decide) (by decide) (by decide), pj_k (by decide)]; exact t3) (by rw [u 19 (by decide) (by decide) (by decide), pj_k (by decide)]; exact t4) (ME_fr t5 r2) h8 hch hd1 hd2 hd3 hz
        have hj4 : ∀ o, o < 39 → J4 o = J o := fun o ho => by rw [r2.2.1 o (by omega), pj_row (by omega), hj o ho]
        have ha4 : ∀ j, j < 40 → A4 j = A j := fun j hj => by rw [r2.2.2.2 j (by omega), ha j hj]
        rw [hpre]
        exact ⟨fun h => mfr_MO (key.1 h) hj4 ha4, fun h => ⟨fun g => mfr_MO ((key.2 h).1 g) hj4 ha4, fun g => mfr_MO ((key.2 h).2 g) hj4 ha4⟩⟩
theorem add_goal {J : yJ} {A : yA} {s : Nat} {x : Int64} {Q : zW} {B L : List Int32} {wd : Int32} {F : Nat} (hF : 20000 ≤ F) (y me : Int32) (lt : Bool) (hS : Sh A) (hC : CI J A B L wd) (hG : GI B L wd) : ∃ kk v B' L' wd', GI B' L' wd' ∧ CO J A (f_Law_add F 0 y me (bI lt) 60 (YW J A s (.inr (.inl [x]) :: Q))) kk v B' L' wd' ∧ ∀ J1 A1 s1 Q1, Sh A1 → MI J1 A1 B L wd → MO J1 A1 s1 Q1 (f_Model_add F 39 y me (bI lt) (YW J1 A1 s1 Q1)) kk v B' L' wd' := by
  have c := c_add (s := s) (x := x) (Q := Q) hF y me lt hS hC hG
  have m := fun J1 A1 s1 Q1 S1 M1 => m_add (J := J1) (A := A1) (s := s1) (Q := Q1) (B := B) (L := L) (wd := wd) hF y me lt S1 M1 hG
  cases ho : opS L with
  | none => exact ⟨1, 0, B, L, wd, hG, c.1 ho, fun J1 A1 s1 Q1 S1 M1 => (m J1 A1 s1 Q1 S1 M1).1 ho⟩
  | some v =>
    obtain ⟨e, ds, de, es⟩ := v
    have c2 := c.2 e ds de es ho
    have m2 := fun J1 A1 s1 Q1 S1 M1 => (m J1 A1 s1 Q1 S1 M1).2 e ds de es ho
    rcases nam_cases y with ⟨n, hy⟩ | hn
    · by_cases hm : me = 0 ∨ me = 8
      · obtain ⟨-, -, -, hnd, h8, hd1, hd2, hd3⟩ := opS_some ho
        obtain ⟨z, left, nn, hz⟩ := adS_ex (y := y) hnd h8
        have c3 := (c2.2 n hy).2 hm z left nn hz
        have m3 := fun J1 A1 s1 Q1 S1 M1 => ((m2 J1 A1 s1 Q1 S1 M1).2 n hy).2 hm z left nn hz
        by_cases h9 : 8 < nn
        · exact ⟨3, 0, B, L, wd, hG, c3.1 h9, fun J1 A1 s1 Q1 S1 M1 => (m3 J1 A1 s1 Q1 S1 M1).1 h9⟩
        · have h9' : nn ≤ 8 := by omega
          by_cases hle : (adL L B wd y me (nbN n) ds e lt left es (nI nn)).length ≤ 1600
          · exact ⟨0, nI nn, B, adL L B wd y me (nbN n) ds e lt left es (nI nn), wd, GI_file hG hle (isB_adL hG.2.2.2.2 hG.2.2.2.1), (c3.2 h9').1 hle, fun J1 A1 s1 Q1 S1 M1 => ((m3 J1 A1 s1 Q1 S1 M1).2 h9').1 hle⟩
          · exact ⟨3, 0, B, L, wd, hG, (c3.2 h9').2 (by omega), fun J1 A1 s1 Q1 S1 M1 => ((m3 J1 A1 s1 Q1 S1 M1).2 h9').2 (by omega)⟩
      · exact ⟨2, 0, B, L, wd, hG, (c2.2 n hy).1 hm, fun J1 A1 s1 Q1 S1 M1 => ((m2 J1 A1 s1 Q1 S1 M1).2 n hy).1 hm⟩
    · exact ⟨2, 0, B, L, wd, hG, c2.1 (fun F w h => (hn F w h).1), fun J1 A1 s1 Q1 S1 M1 => (m2 J1 A1 s1 Q1 S1 M1).1 (fun F w h => (hn F w h).2)⟩
theorem step_537 : StepAt b_Law_law_537 := by
  intro F sc K k w hF hl hk hI
  unfold b_Law_law_537 b_Law_law_564 b_Law_law_597
  simp only [sg_ hl (show k + 1 < sc.length by omega) (show (1 : Int32) = nI 1 from rfl), sg_ hl (show k + 2 < sc.length by omega) (show (2 : Int32) = nI 2 from rfl), sg_ hl (show k + 3 < sc.length by omega) (show (3 : Int32) = nI 3 from rfl), Option.bind_some]
  generalize sc[k + 1] = y
  generalize sc[k + 2] = me
  by_cases h0 : sc[k + 3] = 0
  · rw [if_pos h0]
    simp only [if_pos h0]
    exact call_step (fun w => f_Law_add F 0 y me (bI false) 60 w) (fun w => f_Model_add F 39 y me (bI false) w) hI (fun J A s x Q B L wd hS hC hM hG => add_goal hF y me false hS hC hG)
  · rw [if_neg h0]
    simp only [if_neg h0]
    exact call_step (fun w => f_Law_add F 0 y me (bI true) 60 w) (fun w => f_Model_add F 39 y me (bI true) w) hI (fun J A s x Q B L wd hS hC hM hG => add_goal hF y me true hS hC hG)
