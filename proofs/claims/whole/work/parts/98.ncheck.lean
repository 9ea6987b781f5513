/-! check, load. -/
def chL (L : List Int32) (ds : Nat) (es : List Ent) : Nat → Nat → Nat
  | 0, _ => 0
  | m + 1, i => if (ftS L ds es i).1 = 0 then chL L ds es m (i + 1) else 100 * i + (ftS L ds es i).1
section Ck
variable {J : yJ} {A : yA} {s : Nat} {Q : zW} {B L : List Int32} {F ds : Nat} {es : List Ent} {wd : Int32}
theorem CI_cff {J' : yJ} {A' : yA} (hC : CI J A B L wd) (h : cff J A J' A') : CI J' A' B L wd := by
  obtain ⟨c1, c2, c3, c4, c5⟩ := hC
  refine ⟨?_, ?_, ?_, ?_, ?_⟩
  · rw [h.2.1 1 (by decide) (by decide) (by decide)]; exact c1
  · rw [h.2.2 2 (by omega)]; exact c2
  · rw [h.2.1 3 (by decide) (by decide) (by decide)]; exact c3
  · rw [h.2.2 4 (by omega)]; exact c4
  · rw [h.2.1 35 (by decide) (by decide) (by decide)]; exact c5
theorem MI_mff {J' : yJ} {A' : yA} (hM : MI J A B L wd) (h : mff J A J' A') : MI J' A' B L wd := by
  obtain ⟨c1, c2, c3, c4, c5, c6⟩ := hM
  refine ⟨?_, ?_, ?_, ?_, ?_, ?_⟩
  · rw [h.2.2.1 1 (by decide) (by decide) (by decide) (by decide)]; exact c1
  · rw [h.2.2.2 40 (by omega)]; exact c2
  · rw [h.2.2.1 3 (by decide) (by decide) (by decide) (by decide)]; exact c3
  · rw [h.2.2.2 41 (by omega)]; exact c4
  · rw [h.2.2.1 5 (by decide) (by decide) (by decide) (by decide)]; exact c5
  · rw [h.2.2.2 47 (by omega)]; exact c6
theorem FI_cff {J' : yJ} {A' : yA} (h : FI J A L) (f : cff J A J' A') : FI J' A' L := ⟨f.1, by rw [f.2.1 3 (by decide) (by decide) (by decide)]; exact h.2.1, by rw [f.2.2 4 (by omega)]; exact h.2.2.1, h.2.2.2⟩
theorem GF_mff {J' : yJ} {A' : yA} (h : GF J A L) (f : mff J A J' A') : GF J' A' L := ⟨f.1, by rw [f.2.2.1 3 (by decide) (by decide) (by decide) (by decide)]; exact h.2.1, by rw [f.2.2.2 41 (by omega)]; exact h.2.2.1, h.2.2.2⟩
theorem CE_cff {J' : yJ} {A' : yA} (h : CE J es) (h8 : es.length ≤ 8) (f : cff J A J' A') : CE J' es := fun i hi j hj => by rw [f.2.1 (27 + i) (by omega) (by omega) (by omega)]; exact h i hi j hj
theorem cff.rf (hS : Sh A) : cff J A J A := ⟨hS, fun _ _ _ _ => rfl, fun _ _ => rfl⟩
theorem cff.tr {J1 J2 : yJ} {A1 A2 : yA} (h1 : cff J A J1 A1) (h2 : cff J1 A1 J2 A2) : cff J A J2 A2 := ⟨h2.1, fun o a b c => (h2.2.1 o a b c).trans (h1.2.1 o a b c), fun j hj => (h2.2.2 j hj).trans (h1.2.2 j hj)⟩
theorem c_ck_l (hF : 20000 ≤ F) (h8 : es.length ≤ 8) (hok : ∀ E ∈ es, okE ds E) (hds : ds ≤ L.length) : ∀ (m i : Nat) (J : yJ) (A : yA) (s : Nat), FI J A L → CE J es → J 24 3 = nI es.length → J 24 4 = nI ds → i ≤ es.length → es.length - i + 1 < m → ∃ J' A' s', l_Zip_check_10 F m 0 0 (nI i) (YW J A s Q) = some (nI (chL L ds es (es.length - i) i), YW J' A' s' Q) ∧ cff J A J' A' := by
  intro m
  induction m with
  | zero => intro i J A s _ _ _ _ _ h; omega
  | succ m ih =>
    intro i J A s h hE h3 h4 hi hm
    show ∃ J' A' s', b_Zip_check_10 F (l_Zip_check_10 F m) 0 0 (nI i) (YW J A s Q) = _ ∧ _
    unfold b_Zip_check_10 b_Zip_check_45 b_Zip_check_52
    rw [show getR (YW J A s Q) 0 8 6 = some 24 from rfl, Option.bind_some, show getI (YW J A s Q) 24 6 3 = some (J 24 3) from rfl, Option.bind_some, h3]
    by_cases hlt : i < es.length
    · obtain ⟨J1, A1, s1, e1, f1, -⟩ := c_fault (F := F) (s := s) (Q := Q) hF h hE h4 hlt h8 hok hds
      have hle := ftS_le (L := L) (ds := ds) (es := es) (k := i)
      rw [if_neg (nI_ge hlt (by omega)), if_pos (show (0 : Int32) = 0 from rfl), wo_Z, Option.bind_some, e1, Option.bind_some, show es.length - i = (es.length - (i + 1)) + 1 by omega]
      unfold chL
      have hE1 := CE_cff hE h8 f1
      have h31 : J1 24 3 = nI es.length := by rw [f1.2.1 24 (by decide) (by decide) (by decide)]; exact h3
      by_cases c1 : (ftS L ds es i).1 = 0
      · rw [if_pos (show ((nI (ftS L ds es i).1, YW J1 A1 s1 Q) : Int32 × zW).1 = 0 from by show nI (ftS L ds es i).1 = 0; rw [c1]; rfl), if_pos c1, nI_1]
        obtain ⟨J2, A2, s2, e2, f2⟩ := ih (i + 1) J1 A1 s1 (FI_cff h f1) hE1 h31 (by rw [f1.2.1 24 (by decide) (by decide) (by decide)]; exact h4) (by omega) (by omega)
        exact ⟨J2, A2, s2, e2, f1.tr f2⟩
      · have nz : ¬ nI (ftS L ds es i).1 = 0 := nI_ne0 (by omega) (by omega)
        rw [if_neg (show ¬ ((nI (ftS L ds es i).1, YW J1 A1 s1 Q) : Int32 × zW).1 = 0 from nz), if_neg c1, nI_1]
        obtain ⟨m, rfl⟩ : ∃ q, m = q + 1 := ⟨m - 1, by omega⟩
        refine ⟨J1, A1, s1, ?_, f1⟩
        show b_Zip_check_10 F (l_Zip_check_10 F m) 0 ((100 : Int32) * nI i + nI (ftS L ds es i).1) (nI (i + 1)) (YW J1 A1 s1 Q) = _
        unfold b_Zip_check_10 b_Zip_check_52
        rw [show getR (YW J1 A1 s1 Q) 0 8 6 = some 24 from rfl, Option.bind_some, show getI (YW J1 A1 s1 Q) 24 6 3 = some (J1 24 3) from rfl, Option.bind_some, show (100 : Int32) = nI 100 from rfl, pk_mul, nI_add, if_neg (nI_ne0 (n := 100 * i + (ftS L ds es i).1) (by omega) (by omega)), ite_self]
    · rw [if_pos (nI_le (by omega) (by omega)), show es.length - i = 0 by omega]
      exact ⟨J, A, s, rfl, cff.rf h.1⟩
theorem m_ck_l (hF : 20000 ≤ F) (h8 : es.length ≤ 8) (hok : ∀ E ∈ es, okE ds E) (hds : ds ≤ L.length) : ∀ (m i : Nat) (J : yJ) (A : yA), GF J A L → A 47 = mOrd → ME A es → J 39 18 = nI ds → i ≤ es.length → es.length - i + 1 < m → ∃ J' A', l_Model_check_25 F m 39 0 (nI es.length) (nI i) (YW J A s Q) = some (nI (chL L ds es (es.length - i) i), YW J' A' s Q) ∧ mff J A J' A' := by
  intro m
  induction m with
  | zero => intro i J A _ _ _ _ _ h; omega
  | succ m ih =>
    intro i J A h h47 hE h18 hi hm
    show ∃ J' A', b_Model_check_25 F (l_Model_check_25 F m) 39 0 (nI es.length) (nI i) (YW J A s Q) = _ ∧ _
    unfold b_Model_check_25 b_Model_check_57 b_Model_check_64
    by_cases hlt : i < es.length
    · obtain ⟨J1, A1, e1, f1, -⟩ := m_fault (F := F) (s := s) (Q := Q) hF h h47 hE h18 hlt h8 hok hds
      have hle := ftS_le (L := L) (ds := ds) (es := es) (k := i)
      rw [if_neg (nI_ge hlt (by omega)), if_pos (show (0 : Int32) = 0 from rfl), wo_M, Option.bind_some, e1, Option.bind_some, show es.length - i = (es.length - (i + 1)) + 1 by omega]
      unfold chL
      by_cases c1 : (ftS L ds es i).1 = 0
      · rw [if_pos (show ((nI (ftS L ds es i).1, YW J1 A1 s Q) : Int32 × zW).1 = 0 from by show nI (ftS L ds es i).1 = 0; rw [c1]; rfl), if_pos c1, nI_1]
        obtain ⟨J2, A2, e2, f2⟩ := ih (i + 1) J1 A1 (GF_mff h f1) (by rw [f1.2.2.2 47 (by omega)]; exact h47) (hE.eq (fun j a b => f1.2.2.2 j (by omega))) (by rw [f1.2.2.1 18 (by decide) (by decide) (by decide) (by decide)]; exact h18) (by omega) (by omega)
        exact ⟨J2, A2, e2, f1.tr f2⟩
      · have nz : ¬ nI (ftS L ds es i).1 = 0 := nI_ne0 (by omega) (by omega)
        rw [if_neg (show ¬ ((nI (ftS L ds es i).1, YW J1 A1 s Q) : Int32 × zW).1 = 0 from nz), if_neg c1, nI_1]
        obtain ⟨m, rfl⟩ : ∃ q, m = q + 1 := ⟨m - 1, by omega⟩
        refine ⟨J1, A1, ?_, f1⟩
        show b_Model_check_25 F (l_Model_check_25 F m) 39 ((100 : Int32) * nI i + nI (ftS L ds es i).1) (nI es.length) (nI (i + 1)) (YW J1 A1 s Q) = _
        unfold b_Model_check_25 b_Model_check_64
        rw [show (100 : Int32) = nI 100 from rfl, pk_mul, nI_add, if_neg (nI_ne0 (n := 100 * i + (ftS L ds es i).1) (by omega) (by omega)), ite_self]
    · rw [if_pos (nI_le (by omega) (by omega)), show es.length - i = 0 by omega]
      exact ⟨J, A, rfl, ⟨h.1, fun _ _ => rfl, fun _ _ _ _ _ => rfl, fun _ _ => rfl⟩⟩
end Ck
def chS (L : List Int32) : Int32 := match opS L with
  | none => opC L
  | some (_, ds, _, es) => nI (chL L ds es es.length 0)
theorem c_check {J : yJ} {A : yA} {s : Nat} {Q : zW} {B L : List Int32} {wd : Int32} {F : Nat} (hF : 20000 ≤ F) (hS : Sh A) (hC : CI J A B L wd) (hG : GI B L wd) : ∃ J' A' s', f_Zip_check F 0 (YW J A s Q) = some (chS L, YW J' A' s' Q) ∧ Sh A' ∧ CI J' A' B L wd ∧ J' 39 = J 39 ∧ ∀ j, 40 ≤ j → A' j = A j := by
  have hFI := FI_of hS hC hG
  obtain ⟨J1, r1, r2, r3⟩ := c_read (F := F) (s := s) (Q := Q) hF hFI
  have hC1 := CI_rd hC r2
  have j1 : J1 39 = J 39 := r2 39 (by decide) (by decide) (by omega)
  unfold f_Zip_check b_Zip_check_0 chS
  rw [show getR (YW J A s Q) 0 8 6 = some 24 from rfl, Option.bind_some, wo_A, Option.bind_some, r1, Option.bind_some]
  cases ho : opS L with
  | none =>
    refine ⟨J1, A, s, ?_, hS, hC1, j1, fun _ _ => rfl⟩
    obtain ⟨G, rfl⟩ : ∃ q, F = q + 1 := ⟨F - 1, by omega⟩
    show b_Zip_check_10 (G + 1) (l_Zip_check_10 (G + 1) G) 0 (opC L) 0 (YW J1 A s Q) = _
    unfold b_Zip_check_10 b_Zip_check_52
    rw [show getR (YW J1 A s Q) 0 8 6 = some 24 from rfl, Option.bind_some, show getI (YW J1 A s Q) 24 6 3 = some (J1 24 3) from rfl, Option.bind_some]
    have hz : ¬ opC L = 0 := by
      rcases opC_n ho with e | e
      · rw [e]; decide
      · rw [e]; decide
    rw [if_neg hz, ite_self]
  | some v =>
    obtain ⟨e, ds, de, es⟩ := v
    obtain ⟨k3, k4, k5, k6, k7⟩ := r3 e ds de es ho
    obtain ⟨-, -, -, hnd, h8, hd1, hd2, hd3⟩ := opS_some ho
    have hok := (opS_chn hG.2.2.2.2 ho).2
    obtain ⟨J2, A2, s2, e2, f2⟩ := c_ck_l (F := F) (Q := Q) (ds := ds) hF h8 hok (show ds ≤ L.length by omega) F 0 J1 A s (FI_of hS hC1 hG) k7 k3 k4 (Nat.zero_le _) (by omega)
    rw [show (nI 0 : Int32) = 0 from rfl, Nat.sub_zero] at e2
    refine ⟨J2, A2, s2, ?_, f2.1, CI_cff hC1 f2, by rw [f2.2.1 39 (by decide) (by decide) (by decide)]; exact j1, fun j hj => f2.2.2 j (by omega)⟩
    rw [opC_0 ho]
    exact e2
theorem m_check {J : yJ} {A : yA} {s : Nat} {Q : zW} {B L : List Int32} {wd : Int32} {F : Nat} (hF : 20000 ≤ F) (hS : Sh A) (hM : MI J A B L wd) (hG : GI B L wd) : ∃ J' A', f_Model_check F 39 (YW J A s Q) = some (chS L, YW J' A' s Q) ∧ Sh A' ∧ MI J' A' B L wd ∧ (∀ o, o < 39 → J' o = J o) ∧ ∀ j, j < 40 → A' j = A j := by
  have M0 := MI_0 hM 0
  obtain ⟨J2, A2, e2, S2, q1, q2, q3, q4⟩ := m_open (F := F) (J := pj J 39 0 0) (s := s) (Q := Q) hF (GF_of hS M0 hG)
  have M2 := MI_op M0 q2 q3
  unfold f_Model_check b_Model_check_0 b_Model_check_22 chS
  have e0 : putI (YW J A s Q) 39 9 0 0 = some (YW (pj J 39 0 0) A s Q) := by simp only [wp_M]
  rw [e0, Option.bind_some, wo_M, Option.bind_some, e2, Option.bind_some]
  cases ho : opS L with
  | none =>
    have hz : ¬ opC L = 0 := by
      rcases opC_n ho with e | e
      · rw [e]; decide
      · rw [e]; decide
    rw [if_neg (show ¬ ((opC L, YW J2 A2 s Q) : Int32 × zW).1 = 0 from hz)]
    refine ⟨J2, A2, ?_, S2, M2, fun o ho => by rw [q1 o (by omega), pj_row (by omega)], fun j hj => q3 j (by omega)⟩
    obtain ⟨G, rfl⟩ : ∃ q, F = q + 1 := ⟨F - 1, by omega⟩
    show b_Model_check_25 (G + 1) (l_Model_check_25 (G + 1) G) 39 (opC L) 0 0 (YW J2 A2 s Q) = _
    unfold b_Model_check_25 b_Model_check_64
    rw [if_pos (show (0 : Int32) ≤ 0 by decide)]
  | some v =>
    obtain ⟨e, ds, de, es⟩ := v
    obtain ⟨t1, t2, t3, t4, t5⟩ := q4 e ds de es ho
    obtain ⟨-, -, -, hnd, h8, hd1, hd2, hd3⟩ := opS_some ho
    have hok := (opS_chn hG.2.2.2.2 ho).2
    obtain ⟨J3, A3, e3, f3⟩ := m_ck_l (F := F) (s := s) (Q := Q) (ds := ds) hF h8 hok (show ds ≤ L.length by omega) F 0 J2 A2 (GF_of S2 M2 hG) M2.2.2.2.2.2 t5 t3 (Nat.zero_le _) (by omega)
    rw [show (nI 0 : Int32) = 0 from rfl, Nat.sub_zero] at e3
    rw [if_pos (show ((opC L, YW J2 A2 s Q) : Int32 × zW).1 = 0 from opC_0 ho), show getI ((opC L, YW J2 A2 s Q) : Int32 × zW).2 39 9 17 = some (J2 39 17) from rfl, Option.bind_some, t2, opC_0 ho]
    refine ⟨J3, A3, e3, f3.1, MI_mff M2 f3, fun o ho => by rw [f3.2.1 o (by omega), q1 o (by omega), pj_row (by omega)], fun j hj => by rw [f3.2.2.2 j (by omega), q3 j (by omega)]⟩
theorem step_857 : StepAt b_Law_law_857 := by
  intro F sc K k w hF hl hk hI
  obtain ⟨J, A, s, x, Q, B, L, wd, rfl, hS, hC, hM, hG⟩ := II_YW hI
  obtain ⟨J1, A1, s1, e1, S1, C1, j1, a1⟩ := c_check (F := F) (s := s) (Q := .inr (.inl [x]) :: Q) hF hS hC hG
  obtain ⟨J2, A2, e2, S2, M2, j2, a2⟩ := m_check (F := F) (s := s1) (Q := .inr (.inl [x]) :: Q) hF S1 (MI_eq hM j1 a1) hG
  refine ⟨YW J2 A2 s1 (.inr (.inl [x]) :: Q), YW_II S2 (CI_eq C1 j2 a2) M2 hG, ?_⟩
  unfold b_Law_law_857
  rw [wo_Z, Option.bind_some, e1, Option.bind_some]
  simp only []
  rw [wo_M, Option.bind_some, e2, Option.bind_some]
  simp only []
  rw [if_pos trivial, l1123]
/-! load -/
theorem c_load {J : yJ} {A : yA} {s : Nat} {x : Int64} {Q : zW} {B L : List Int32} {wd : Int32} {F : Nat} (hF : 20000 ≤ F) (y : Int32) (hS : Sh A) (hC : CI J A B L wd) (hG : GI B L wd) :
    (opS L = none → CO J A (f_Law_load F 0 y 60 (YW J A s (.inr (.inl [x]) :: Q))) 1 0 B L wd) ∧
    ∀ e ds de es, opS L = some (e, ds, de, es) →
      (¬ y ∈ nms es → CO J A (f_Law_load F 0 y 60 (YW J A s (.inr (.inl [x]) :: Q))) 2 0 B L wd) ∧
      ∀ i, i < es.length → fcF y (nms es) 0 = nI i → ((ftS L ds es i).1 = 0 → (ftS L ds es i).2.length ≤ 200 ∧ (∀ b ∈ (ftS L ds es i).2, isB b) ∧ CO J A (f_Law_load F 0 y 60 (YW J A s (.inr (.inl [x]) :: Q))) 0 (nI (ftS L ds es i).2.length) (ftS L ds es i).2 L wd) ∧ (¬ (ftS L ds es i).1 = 0 → CO J A (f_Law_load F 0 y 60 (YW J A s (.inr (.inl [x]) :: Q))) 3 0 B L wd) := by
  obtain ⟨J', o1, n1, y1⟩ := c_need (F := F) (s := s) (Q := .inr (.inl [x]) :: Q) hF (FI_of hS hC hG)
  have hC' := CI_rd hC o1
  have j39 : J' 39 = J 39 := o1 39 (by decide) (by decide) (by omega)
  refine ⟨?_, ?_⟩
  · intro ho
    refine CO.mono (CO_thr (s' := s) (x := x) (Q' := Q) (c := .inr (.inr (.inr (14, [])))) hS hC' j39 (fun _ _ => rfl) (by decide)) ?_
    unfold f_Law_load b_Law_load_0 f_Zip_load b_Zip_load_0
    simp only [wo_Z, Option.bind_some, n1 ho]
    rw [if_pos exc_at]
  · intro e ds de es ho
    obtain ⟨e1, k3, k4, k5, k6, k7⟩ := y1 e ds de es ho
    obtain ⟨-, -, -, hnd, h8, hd1, hd2, hd3⟩ := opS_some ho
    have hok := (opS_chn hG.2.2.2.2 ho).2
    have hfind := c_find (F := F) (A := A) (s := s) (Q := .inr (.inl [x]) :: Q) hF (x := y) k7 k3 h8
    refine ⟨?_, ?_⟩
    · intro hy
      refine CO.mono (CO_thr (s' := s) (x := x) (Q' := Q) (c := .inr (.inr (.inr (15, [])))) hS hC' j39 (fun _ _ => rfl) (by decide)) ?_
      unfold f_Law_load b_Law_load_0 f_Zip_load b_Zip_load_0
      simp only [wo_Z, wg_Z, wo_A, Option.bind_some, e1, hfind]
      rw [fcF_no hy, if_pos rfl]
      simp only [Option.bind_some]
      rw [if_neg (exc_no (by decide)), if_pos exc_at]
    · intro i hi hfc
      obtain ⟨J2, A2, s2, e2, f2, g2⟩ := c_fault (F := F) (J := J') (s := s) (Q := .inr (.inl [x]) :: Q) (ds := ds) (k := i) hF (FI_of hS hC' hG) k7 k4 hi h8 hok (by omega)
      have hle := ftS_le (L := L) (ds := ds) (es := es) (k := i)
      have C2 := CI_cff hC' f2
      have j2 : J2 39 = J 39 := by rw [f2.2.1 39 (by decide) (by decide) (by decide)]; exact j39
      have a2 : ∀ j, 40 ≤ j → A2 j = A j := fun j hj => f2.2.2 j (by omega)
      refine ⟨?_, ?_⟩
      · intro h0
        obtain ⟨g3, g4, g5, g6⟩ := g2 h0
        refine ⟨g5, g6, ?_⟩
        obtain ⟨J3, A3, e3, S3, C3, j3, a3⟩ := c_given (F := F) (s := s2) (Q := .inr (.inl [x]) :: Q) f2.1 C2 g3 g4 g5
        refine CO.mono (CO_ret (s' := s2) (x := x) (Q' := Q) S3 C3 (j3.trans j2) (fun j hj => (a3 j hj).trans (a2 j hj))) ?_
        unfold f_Law_load b_Law_load_0 f_Zip_load b_Zip_load_0
        simp only [wo_Z, wg_Z, wo_A, Option.bind_some, e1, hfind]
        rw [hfc, if_neg (nI_neg1 (by omega)), e2, Option.bind_some, h0]
        simp only []
        rw [if_pos (show (nI 0 : Int32) = 0 from rfl)]
        simp only [wo_R, wg_Z, Option.bind_some, e3, wg_R, C3.1]
      · intro h0
        refine CO.mono (CO_thr (s' := s2) (x := x) (Q' := Q) (c := .inr (.inr (.inr (13, [])))) f2.1 C2 j2 a2 (by decide)) ?_
        unfold f_Law_load b_Law_load_0 f_Zip_load b_Zip_load_0
        simp only [wo_Z, wg_Z, wo_A, Option.bind_some, e1, hfind]
        rw [hfc, if_neg (nI_neg1 (by omega)), e2, Option.bind_some]
        simp only []
        rw [if_neg (nI_ne0 (by omega) (by omega))]
        simp only [Option.bind_some]
        rw [if_neg (exc_no (by decide)), if_neg (exc_no (by decide)), if_pos exc_at]
theorem m_load {J : yJ} {A : yA} {s : Nat} {Q : zW} {B L : List Int32} {wd : Int32} {F : Nat} (hF : 20000 ≤ F) (y : Int32) (hS : Sh A) (hM : MI J A B L wd) (hG : GI B L wd) :
    (opS L = none → MO J A s Q (f_Model_load F 39 y (YW J A s Q)) 1 0 B L wd) ∧
    ∀ e ds de es, opS L = some (e, ds, de, es) →
      (¬ y ∈ nms es → MO J A s Q (f_Model_load F 39 y (YW J A s Q)) 2 0 B L wd) ∧
      ∀ i, i < es.length → fcF y (nms es) 0 = nI i → ((ftS L ds es i).1 = 0 → (ftS L ds es i).2.length ≤ 200 → MO J A s Q (f_Model_load F 39 y (YW J A s Q)) 0 (nI (ftS L ds es i).2.length) (ftS L ds es i).2 L wd) ∧ (¬ (ftS L ds es i).1 = 0 → MO J A s Q (f_Model_load F 39 y (YW J A s Q)) 3 0 B L wd) := by
  obtain ⟨J2, A2, e2, S2, q1, q2, q3, q4⟩ := m_open (s := s) (Q := Q) hF (GF_of hS hM hG)
  have M2 := MI_op hM q2 q3
  refine ⟨?_, ?_⟩
  · intro ho
    refine ⟨pj J2 39 0 1, A2, 0, ?_, S2, MI_0 M2 1, pj_s, fun q => absurd q (by decide), fun o ho => by rw [pj_row (by omega), q1 o (by omega)], fun j hj => q3 j (by omega)⟩
    unfold f_Model_load b_Model_load_0 b_Model_load_13 b_Model_load_36 b_Model_load_69
    simp only [wo_M, Option.bind_some, e2]
    have hc : ¬ opC L ≤ 0 := by
      rcases opC_n ho with e | e
      · rw [e]; decide
      · rw [e]; decide
    rw [if_neg hc]
    simp only [wp_M, wg_M, Option.bind_some]
    rw [pj_s, if_neg (by decide), if_neg (by decide), if_neg (by decide)]
  · intro e ds de es ho
    obtain ⟨t1, t2, t3, t4, t5⟩ := q4 e ds de es ho
    obtain ⟨-, -, -, hnd, h8, hd1, hd2, hd3⟩ := opS_some ho
    have hok := (opS_chn hG.2.2.2.2 ho).2
    have hfind := fun (J1 : yJ) => m_find (F := F) (J := J1) (A := A2) (s := s) (Q := Q) hF (x := y) (n := es.length) S2 h8
    have hpre : f_Model_load F 39 y (YW J A s Q) = b_Model_load_36 F 39 (fiS (A2 48) y es.length) (YW (pj J2 39 0 0) A2 s Q) := by
      unfold f_Model_load b_Model_load_0 b_Model_load_13
      simp only [wo_M, Option.bind_some, e2]
      rw [opC_0 ho, if_pos (by decide)]
      simp only [wp_M, wg_M, Option.bind_some]
      rw [pj_s, if_pos (by decide), pj_k (by decide), t2, hfind, Option.bind_some]
      rfl
    refine ⟨?_, ?_⟩
    · intro hy
      refine ⟨pj (pj J2 39 0 0) 39 0 2, A2, 0, ?_, S2, MI_0 (MI_0 M2 0) 2, pj_s, fun q => absurd q (by decide), fun o ho => by rw [pj_row (by omega), pj_row (by omega), q1 o (by omega)], fun j hj => q3 j (by omega)⟩
      rw [hpre, fiS_no (by rw [ME_48 t5]; exact hy)]
      unfold b_Model_load_36 b_Model_load_66 b_Model_load_69
      simp only [wp_M, wg_M, Option.bind_some]
      rw [pj_s, if_pos rfl, if_neg (by decide), pj_s, if_neg (by decide)]
    · intro i hi hfc
      have hfi : fiS (A2 48) y es.length = nI i := by
        rcases find_cases (xs := A2 48) y hnd (ME_48 t5) h8 with ⟨k, hk, -, f1, f2⟩ | ⟨f1, -, -⟩
        · rw [hfc] at f1
          rw [f2, f1]
        · rw [hfc] at f1
          exact absurd f1 (nI_neg1 (by omega))
      have M3 := MI_0 M2 0
      obtain ⟨J4, A4, e4, f4, g4⟩ := m_fault (F := F) (J := pj J2 39 0 0) (A := A2) (s := s) (Q := Q) (ds := ds) (k := i) hF (GF_of S2 M3 hG) M3.2.2.2.2.2 t5 (by rw [pj_k (by decide)]; exact t3) hi h8 hok (by omega)
      have hle := ftS_le (L := L) (ds := ds) (es := es) (k := i)
      have M4 := MI_mff M3 f4
      have hpre2 : ∀ z : Int32, z = nI (ftS L ds es i).1 → b_Model_load_36 F 39 (nI i) (YW (pj J2 39 0 0) A2 s Q) = if z ≤ 0 then b_Model_load_66 F 39 39 0 (YW J4 A4 s Q) else b_Model_load_66 F 39 39 3 (YW J4 A4 s Q) := by
        intro z hz
        unfold b_Model_load_36
        rw [show getI (YW (pj J2 39 0 0) A2 s Q) 39 9 0 = some (pj J2 39 0 0 39 0) from rfl, Option.bind_some, pj_s, if_pos (show (0 : Int32) = 0 from rfl), if_pos (nI_pos' (by omega)), wo_M, Option.bind_some, e4, Option.bind_some, hz]
      rw [hpre, hfi, hpre2 _ rfl]
      refine ⟨?_, ?_⟩
      · intro h0 h200
        obtain ⟨g5, g6⟩ := g4 h0
        obtain ⟨J5, A5, z1, z2, z3, z4, z5, z6⟩ := m_takeContent (F := F) (J := pj J4 39 0 0) (A := A4) (s := s) (Q := Q) (O := (ftS L ds es i).2) hF f4.1 (MI_0 M4 0) (by rw [pj_k (by decide)]; exact g5) g6 h200
        refine ⟨J5, A5, nI (ftS L ds es i).2.length, ?_, z2, z3, by rw [z4, pj_s], fun _ => rfl, ?_, ?_⟩
        · rw [if_pos (show nI (ftS L ds es i).1 ≤ 0 by rw [h0]; decide)]
          unfold b_Model_load_66 b_Model_load_69
          simp only [wp_M, wg_M, wo_M, Option.bind_some]
          rw [pj_s, if_pos (by decide), z1, Option.bind_some]
        · intro o ho
          rw [z5 o ho, pj_row (by omega), f4.2.1 o (by omega), pj_row (by omega), q1 o (by omega)]
        · intro j hj
          rw [z6 j hj, f4.2.2.2 j (by omega), q3 j (by omega)]
      · intro h0
        refine ⟨pj J4 39 0 3, A4, 0, ?_, f4.1, MI_0 M4 3, pj_s, fun q => absurd q (by decide), ?_, ?_⟩
        · rw [if_neg (nI_nle (by omega) (by omega))]
          unfold b_Model_load_66 b_Model_load_69
          simp only [wp_M, wg_M, wo_M, Option.bind_some]
          rw [pj_s, if_neg (by decide)]
        · intro o ho
          rw [pj_row (by omega), f4.2.1 o (by omega), pj_row (by omega), q1 o (by omega)]
        · intro j hj
          rw [f4.2.2.2 j (by omega), q3 j (by omega)]
theorem step_689 : StepAt b_Law_law_689 := by
  intro F sc K k w hF hl hk hI
  unfold b_Law_law_689
  simp only [sg_ hl (show k + 1 < sc.length by omega) (show (1 : Int32) = nI 1 from rfl), Option.bind_some]
  generalize sc[k + 1] = y
  refine call_step (fun w => f_Law_load F 0 y 60 w) (fun w => f_Model_load F 39 y w) hI ?_
  intro J A s x Q B L wd hS hC hM hG
  have c := c_load (s := s) (x := x) (Q := Q) hF y hS hC hG
  have m := fun J1 A1 s1 Q1 S1 M1 => m_load (J := J1) (A := A1) (s := s1) (Q := Q1) hF y S1 M1 hG
  cases ho : opS L with
  | none => exact ⟨1, 0, B, L, wd, hG, c.1 ho, fun J1 A1 s1 Q1 S1 M1 => (m J1 A1 s1 Q1 S1 M1).1 ho⟩
  | some v =>
    obtain ⟨e, ds, de, es⟩ := v
    by_cases hy : y ∈ nms es
    · obtain ⟨-, -, -, hnd, h8, hd1, hd2, hd3⟩ := opS_some ho
      obtain ⟨i, hi, -, hfc, -⟩ : ∃ i, ∃ h : i < es.length, nI (es[i] 0) = y ∧ fcF y (nms es) 0 = nI i ∧ fiS (nms es) y es.length = nI i := by
        rcases find_cases (xs := nms es) y hnd (List.take_of_length_le (by unfold nms; rw [List.length_map]; exact Nat.le_refl _)) h8 with q | q
        · exact q
        · exact absurd hy q.2.2
      by_cases h0 : (ftS L ds es i).1 = 0
      · obtain ⟨g1, g2, g3⟩ := ((c.2 e ds de es ho).2 i hi hfc).1 h0
        exact ⟨0, nI (ftS L ds es i).2.length, (ftS L ds es i).2, L, wd, GI_buf hG g1 g2, g3, fun J1 A1 s1 Q1 S1 M1 => (((m J1 A1 s1 Q1 S1 M1).2 e ds de es ho).2 i hi hfc).1 h0 g1⟩
      · exact ⟨3, 0, B, L, wd, hG, ((c.2 e ds de es ho).2 i hi hfc).2 h0, fun J1 A1 s1 Q1 S1 M1 => (((m J1 A1 s1 Q1 S1 M1).2 e ds de es ho).2 i hi hfc).2 h0⟩
    · exact ⟨2, 0, B, L, wd, hG, (c.2 e ds de es ho).1 hy, fun J1 A1 s1 Q1 S1 M1 => ((m J1 A1 s1 Q1 S1 M1).2 e ds de es ho).1 hy⟩
