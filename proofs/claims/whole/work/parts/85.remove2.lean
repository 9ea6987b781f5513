/-! remove, on both sides. -/
theorem nI_neg1 {i : Nat} (h : i < 2 ^ 31) : ¬ nI i = (-1 : Int32) := by
  intro q
  have := nI_pos' h
  rw [q] at this
  exact absurd this (by decide)
theorem hx_of {i : Nat} (hi : i < 2 ^ 30) : ∀ k, k < 8 → (nI k = nI i ↔ k = i) := fun k hk => nI_eq (by omega) (by omega)
theorem slc_0 {L : List Int32} {q : Nat} : (L.drop 0).take (q - 0) = L.take q := by rw [List.drop_zero, Nat.sub_zero]
section Rs
variable {J : yJ} {A : yA} {s : Nat} {Q : zW} {F : Nat} {B L : List Int32} {wd : Int32} {es : List Ent} {de ds e : Nat}
theorem m_restBut {X : Ent} {i : Nat} (hi : i < 8) (g7 : (A 55)[i]? = some (nI (X 7))) (g8 : (A 56)[i]? = some (nI (X 8))) (hX : X 7 ≤ X 8) (hd : X 8 - X 7 ≤ de - ds) (h1 : ds ≤ de) (h2 : de ≤ e) (h3 : e + 22 ≤ L.length) (k19 : J 39 19 = nI de) (k18 : J 39 18 = nI ds) (k5 : J 39 5 = wd) (k3 : J 39 3 = nI L.length) (k16 : J 39 16 = nI e) : f_Model_restBut F 39 (nI i) (YW J A s Q) = some (nI (de - ds - (X 8 - X 7) + (if wd = 0 then 22 else 98) + (L.length - (e + 22))), YW J A s Q) := by
  have a7 : aget (YW J A s Q) 55 (nI i) = some (nI (X 7)) := ag_ (by decide) (by omega) g7
  have a8 : aget (YW J A s Q) 56 (nI i) = some (nI (X 8)) := ag_ (by decide) (by omega) g8
  have key : ∀ c : Nat, 22 ≤ c → (((nI (de - ds - (X 8 - X 7)) + nI c) + nI L.length) - nI e) - (22 : Int32) = nI (de - ds - (X 8 - X 7) + c + (L.length - (e + 22))) := by
    intro c hc
    rw [nI_add, nI_add, pk_sub (by omega), show (22 : Int32) = nI 22 from rfl, pk_sub (by omega)]
    congr 1
    omega
  unfold f_Model_restBut b_Model_restBut_0 b_Model_restBut_21 b_Model_restBut_47
  rw [if_pos (nI_pos' (by omega))]
  simp only [wg_M, Option.bind_some, a7, a8, k19, k18, k5, k3, k16]
  rw [pk_sub hX, pk_sub h1, pk_sub hd]
  by_cases h : wd = 0
  · rw [if_pos h, if_pos h]
    exact congrArg (fun z => some (z, YW J A s Q)) (key 22 (by decide))
  · rw [if_neg h, if_neg h]
    exact congrArg (fun z => some (z, YW J A s Q)) (key 98 (by decide))
end Rs
theorem c_remove {J : yJ} {A : yA} {s : Nat} {x : Int64} {Q : zW} {B L : List Int32} {wd : Int32} {F : Nat} (hF : 20000 ≤ F) (y : Int32) (hS : Sh A) (hC : CI J A B L wd) (hG : GI B L wd) :
    (opS L = none → CO J A (f_Law_remove F 0 y 60 (YW J A s (.inr (.inl [x]) :: Q))) 1 0 B L wd) ∧
    ∀ e ds de es, opS L = some (e, ds, de, es) →
      (¬ y ∈ nms es → CO J A (f_Law_remove F 0 y 60 (YW J A s (.inr (.inl [x]) :: Q))) 2 0 B L wd) ∧
      ∀ i, i < es.length → fcF y (nms es) 0 = nI i → ((fin L wd (nI (es.length - 1)) (nI ds) e (L.take ds ++ kpL L i 0 es)).length ≤ 1600 → CO J A (f_Law_remove F 0 y 60 (YW J A s (.inr (.inl [x]) :: Q))) 0 (nI (es.length - 1)) B (fin L wd (nI (es.length - 1)) (nI ds) e (L.take ds ++ kpL L i 0 es)) wd) ∧ (1600 < (fin L wd (nI (es.length - 1)) (nI ds) e (L.take ds ++ kpL L i 0 es)).length → CO J A (f_Law_remove F 0 y 60 (YW J A s (.inr (.inl [x]) :: Q))) 3 0 B L wd) := by
  obtain ⟨J', o1, n1, y1⟩ := c_need (F := F) (s := s) (Q := .inr (.inl [x]) :: Q) hF (FI_of hS hC hG)
  have hC' := CI_rd hC o1
  have j39 : J' 39 = J 39 := o1 39 (by decide) (by decide) (by omega)
  refine ⟨?_, ?_⟩
  · intro ho
    refine CO.mono (CO_thr (s' := s) (x := x) (Q' := Q) (c := .inr (.inr (.inr (14, [])))) hS hC' j39 (fun _ _ => rfl) (by decide)) ?_
    unfold f_Law_remove b_Law_remove_0 f_Zip_remove b_Zip_remove_0
    simp only [wo_Z, Option.bind_some, n1 ho]
    rw [if_pos exc_at]
  · intro e ds de es ho
    obtain ⟨e1, k3, k4, k5, k6, k7⟩ := y1 e ds de es ho
    obtain ⟨-, -, -, hnd, h8, hd1, hd2, hd3⟩ := opS_some ho
    have hch := (opS_chn hG.2.2.2.2 ho).1
    have hL := hG.2.2.1
    have hfind := c_find (F := F) (A := A) (s := s) (Q := .inr (.inl [x]) :: Q) hF (x := y) k7 k3 h8
    refine ⟨?_, ?_⟩
    · intro hy
      refine CO.mono (CO_thr (s' := s) (x := x) (Q' := Q) (c := .inr (.inr (.inr (15, [])))) hS hC' j39 (fun _ _ => rfl) (by decide)) ?_
      unfold f_Law_remove b_Law_remove_0 f_Zip_remove b_Zip_remove_0
      simp only [wo_Z, wg_Z, wo_A, Option.bind_some, e1, hfind]
      rw [fcF_no hy, if_pos rfl]
      simp only [Option.bind_some]
      rw [if_neg (exc_no (by decide)), if_pos exc_at]
    · intro i hi hfc
      obtain ⟨st, b1, b2⟩ := c_begin (F := F) (J := J') (s := s) (Q := .inr (.inl [x]) :: Q) hS hC'.2.2.1 hC'.2.2.2.1 (show ds ≤ L.length by omega)
      obtain ⟨st2, c1, c2⟩ := c_keep (F := F) (s := s) (Q := .inr (.inl [x]) :: Q) (left := i) (x := nI i) (de := de) hF hS hC'.2.2.1 hC'.2.2.2.1 k3 h8 k7 (by omega) (fun i h => ⟨(chn_at hch i h).1, (chn_at hch i h).2.1⟩) (hx_of (by omega)) b2
      obtain ⟨J2, A2, S2, j2, a2, hcase⟩ := c_finish (F := F) (s := s) (Q := .inr (.inl [x]) :: Q) hF hS hC' hL k6 hd3 (nI (es.length - 1)) (nI ds) c2
      have hn1 : nI es.length - 1 = nI (es.length - 1) := pk_sub (a := es.length) (b := 1) (by omega)
      have hpre : f_Zip_remove F 0 y (YW J A s (.inr (.inl [x]) :: Q)) = (f_Zip_finishFile F 0 (nI (es.length - 1)) (nI ds) (dw J' A s (.inr (.inl [x]) :: Q) st2)).bind fun r => match r with | (.inl _, w68) => some ((.inl (nI (es.length - 1))), w68) | (.inr qx68, w68) => some (.inr qx68, w68) := by
        unfold f_Zip_remove b_Zip_remove_0
        simp only [wo_Z, wg_Z, wo_A, Option.bind_some, e1, hfind]
        rw [hfc, if_neg (nI_neg1 (by omega))]
        simp only [wg_A, wo_T, Option.bind_some, k3, k4, b1, dw_g, c1, hn1]
        rfl
      refine ⟨?_, ?_⟩
      · intro hle
        rcases hcase with ⟨q1, q2, q3⟩ | ⟨q1, -, -⟩
        · refine CO.mono (CO_ret (s' := s) (x := x) (Q' := Q) S2 q3 (j2.trans j39) a2) ?_
          unfold f_Law_remove b_Law_remove_0
          simp only [wo_Z, Option.bind_some, hpre, q2]
        · omega
      · intro hgt
        rcases hcase with ⟨q1, -, -⟩ | ⟨q1, q2, q3⟩
        · omega
        · refine CO.mono (CO_thr (s' := s) (x := x) (Q' := Q) (c := .inr (.inr (.inr (11, [])))) S2 q3 (j2.trans j39) a2 (by decide)) ?_
          unfold f_Law_remove b_Law_remove_0
          simp only [wo_Z, Option.bind_some, hpre, q2]
          rw [if_neg (exc_no (by decide)), if_neg (exc_no (by decide)), if_pos exc_at]
theorem m_remove {J : yJ} {A : yA} {s : Nat} {Q : zW} {B L : List Int32} {wd : Int32} {F : Nat} (hF : 20000 ≤ F) (y : Int32) (hS : Sh A) (hM : MI J A B L wd) (hG : GI B L wd) :
    (opS L = none → MO J A s Q (f_Model_remove F 39 y (YW J A s Q)) 1 0 B L wd) ∧
    ∀ e ds de es, opS L = some (e, ds, de, es) →
      (¬ y ∈ nms es → MO J A s Q (f_Model_remove F 39 y (YW J A s Q)) 2 0 B L wd) ∧
      ∀ i, i < es.length → fcF y (nms es) 0 = nI i → ((fin L wd (nI (es.length - 1)) (nI ds) e (L.take ds ++ kpL L i 0 es)).length ≤ 1600 → MO J A s Q (f_Model_remove F 39 y (YW J A s Q)) 0 (nI (es.length - 1)) B (fin L wd (nI (es.length - 1)) (nI ds) e (L.take ds ++ kpL L i 0 es)) wd) ∧ (1600 < (fin L wd (nI (es.length - 1)) (nI ds) e (L.take ds ++ kpL L i 0 es)).length → MO J A s Q (f_Model_remove F 39 y (YW J A s Q)) 3 0 B L wd) := by
  obtain ⟨J2, A2, e2, S2, q1, q2, q3, q4⟩ := m_open (s := s) (Q := Q) hF (GF_of hS hM hG)
  have M2 := MI_op hM q2 q3
  refine ⟨?_, ?_⟩
  · intro ho
    refine ⟨pj J2 39 0 1, A2, 0, ?_, S2, MI_0 M2 1, pj_s, fun q => absurd q (by decide), fun o ho => by rw [pj_row (by omega), q1 o (by omega)], fun j hj => q3 j (by omega)⟩
    unfold f_Model_remove b_Model_remove_0 b_Model_remove_13 b_Model_remove_36 b_Model_remove_77
    simp only [wo_M, Option.bind_some, e2]
    have hc : ¬ opC L ≤ 0 := by
      rcases opC_n ho with e | e
      · rw [e]; decide
      · rw [e]; decide
    rw [if_neg hc]
    simp only [wp_M, wg_M, Option.bind_some]
    rw [pj_s, if_neg (by decide), if_neg (by decide), if_neg (by decide)]
  · intro e ds de es ho
    obtain ⟨t1, t2, t3, t4, t5⟩ := q4 e ds de es ho
    obtain ⟨-, -, -, hnd, h8, hd1, hd2, hd3⟩ := opS_some ho
    have hch := (opS_chn hG.2.2.2.2 ho).1
    have hL := hG.2.2.1
    have hfind := fun (J1 : yJ) => m_find (F := F) (J := J1) (A := A2) (s := s) (Q := Q) hF (x := y) (n := es.length) S2 h8
    have hpre : f_Model_remove F 39 y (YW J A s Q) = b_Model_remove_36 F 39 (fiS (A2 48) y es.length) (YW (pj J2 39 0 0) A2 s Q) := by
      unfold f_Model_remove b_Model_remove_0 b_Model_remove_13
      simp only [wo_M, Option.bind_some, e2]
      rw [opC_0 ho, if_pos (by decide)]
      simp only [wp_M, wg_M, Option.bind_some]
      rw [pj_s, if_pos (by decide), pj_k (by decide), t2, hfind, Option.bind_some]
      rfl
    refine ⟨?_, ?_⟩
    · intro hy
      refine ⟨pj (pj J2 39 0 0) 39 0 2, A2, 0, ?_, S2, MI_0 (MI_0 M2 0) 2, pj_s, fun q => absurd q (by decide), fun o ho => by rw [pj_row (by omega), pj_row (by omega), q1 o (by omega)], fun j hj => q3 j (by omega)⟩
      rw [hpre, fiS_no (by rw [ME_48 t5]; exact hy)]
      unfold b_Model_remove_36 b_Model_remove_74 b_Model_remove_77
      simp only [wp_M, wg_M, Option.bind_some]
      rw [pj_s, if_pos rfl, if_neg (by decide), pj_s, if_neg (by decide)]
    · intro i hi hfc
      have hfi : fiS (A2 48) y es.length = nI i := by
        rcases find_cases (xs := A2 48) y hnd (ME_48 t5) h8 with ⟨k, hk, -, f1, f2⟩ | ⟨f1, -, -⟩
        · rw [hfc] at f1
          rw [f2, f1]
        · rw [hfc] at f1
          exact absurd f1 (nI_neg1 (by omega))
      have hci := chn_at hch i hi
      have M3 := MI_0 M2 0
      have u18 : pj J2 39 0 0 39 18 = nI ds := by rw [pj_k (by decide)]; exact t3
      have u17 : pj J2 39 0 0 39 17 = nI es.length := by rw [pj_k (by decide)]; exact t2
      have u16 : pj J2 39 0 0 39 16 = nI e := by rw [pj_k (by decide)]; exact t1
      have u3 : pj J2 39 0 0 39 3 = nI L.length := M3.2.2.1
      have u5 : pj J2 39 0 0 39 5 = wd := M3.2.2.2.2.1
      have hrest := m_restBut (F := F) (J := pj J2 39 0 0) (A := A2) (s := s) (Q := Q) (L := L) (wd := wd) (ds := ds) (de := de) (e := e) (X := es[i]) (i := i) (by omega) (t5 i hi 7 (by decide)) (t5 i hi 8 (by decide)) hci.1 (by omega) hd1 hd2 hd3 (by rw [pj_k (by decide)]; exact t4) (by rw [pj_k (by decide)]; exact t3) M3.2.2.2.2.1 M3.2.2.1 (by rw [pj_k (by decide)]; exact t1)
      have hkl := kpL_len1 (L := L) (left := i) (i := 0) (de := de) (by omega) hch (Nat.zero_le _) (List.getElem?_eq_getElem hi)
      have hlen : (fin L wd (nI (es.length - 1)) (nI ds) e (L.take ds ++ kpL L i 0 es)).length = ds + (de - ds - (es[i] 8 - es[i] 7) + (if wd = 0 then 22 else 98) + (L.length - (e + 22))) := by
        rw [fin_len hd3, List.length_append, List.length_take]
        omega
      have hwd : (if wd = 0 then (22 : Nat) else 98) ≤ 98 := by by_cases h : wd = 0 <;> simp [h]
      have hn1 : nI es.length - 1 = nI (es.length - 1) := pk_sub (a := es.length) (b := 1) (by omega)
      refine ⟨?_, ?_⟩
      · intro hle
        have hU : (L.take ds ++ kpL L i 0 es).length + 22 ≤ 1600 := by
          rw [fin_len hd3] at hle
          have : 22 ≤ (if wd = 0 then (22 : Nat) else 98) := by by_cases h : wd = 0 <;> simp [h]
          omega
        have hU2 := hU
        rw [List.length_append, List.length_take] at hU2
        obtain ⟨J3, A3, f1, S3, f2, f3, f4, f5⟩ := m_becomes (F := F) (s := s) (Q := Q) hF S2 (MI_0 M2 0) hle
        refine ⟨J3, A3, nI (es.length - 1), ?_, S3, f2, by rw [f3 0 (by decide) (by decide), pj_s], fun _ => rfl, fun o ho => by rw [f4 o ho, pj_row (by omega), q1 o (by omega)], fun j hj => by rw [f5 j hj, q3 j (by omega)]⟩
        rw [hpre, hfi]
        unfold b_Model_remove_36 b_Model_remove_74 b_Model_remove_77
        simp only [wp_M, wg_M, wo_M, Option.bind_some]
        rw [pj_s, if_pos rfl, if_pos (nI_pos' (by omega)), pj_k (by decide), t3, hrest, Option.bind_some]
        simp only []
        rw [nI_add, if_pos (show nI _ ≤ (1600 : Int32) from nI_le (b := 1600) (by omega) (by decide))]
        simp only [wp_M, wg_M, Option.bind_some]
        rw [pj_pj, pj_s, if_pos (by decide), md_0]
        simp only [md_g, md_o, Option.bind_some]
        have p1 := m_putFile (F := F) (J := pj J2 39 0 0) (A := A2) (s := s) (Q := Q) (T := []) (L := L) (p := 0) (q := ds) hF S2 M3.2.2.2.1 hL (Nat.zero_le _) (by omega) (by rw [List.length_nil]; omega)
        rw [slc_0, List.nil_append, show (nI 0 : Int32) = 0 from rfl] at p1
        have p2 := m_putParts (F := F) (J := pj J2 39 0 0) (A := A2) (s := s) (Q := Q) (T := L.take ds) (L := L) (es := es) (de := de) (left := i) (x := nI i) hF S2 M3.2.2.2.1 hL (by rw [pj_k (by decide)]; exact t2) h8 t5 (by omega) (fun i h => ⟨(chn_at hch i h).1, (chn_at hch i h).2.1⟩) (hx_of (by omega)) (by rw [List.length_take]; omega)
        rw [show pj (pj J2 39 0 0) 39 31 0 39 18 = nI ds by rw [pj_k (by decide)]; exact u18, p1, Option.bind_some]
        simp only [md_g, md_o, Option.bind_some]
        rw [p2, Option.bind_some]
        simp only [md_g, md_o, Option.bind_some]
        rw [u18, u17, hn1, u3, u16, pk_sub (by omega), show (22 : Int32) = nI 22 from rfl, pk_sub (by omega), m_putEnd hF S2 _ _ _ (by omega), Option.bind_some]
        simp only [md_g, md_o, Option.bind_some]
        have p3 := m_putFile (F := F) (J := pj J2 39 0 0) (A := A2) (s := s) (Q := Q) (T := L.take ds ++ kpL L i 0 es ++ eE wd (nI (es.length - 1)) (nI ds) (nI (L.take ds ++ kpL L i 0 es).length) (nI (L.length - (e + 22)))) (L := L) (p := e + 22) (q := L.length) hF S2 M3.2.2.2.1 hL hd3 (Nat.le_refl _) (by rw [List.length_append, eE_len]; have := fin_len (wd := wd) (n := nI (es.length - 1)) (d := nI ds) (U1 := L.take ds ++ kpL L i 0 es) hd3; omega)
        rw [u16, nI_add, u3, u5, show L.length - e - 22 = L.length - (e + 22) by omega, p3, Option.bind_some]
        simp only [md_o]
        unfold fin slc at f1
        rw [f1, Option.bind_some]
        simp only [wg_M, Option.bind_some]
        rw [f3 17 (by decide) (by decide), u17, hn1]
      · intro hgt
        refine ⟨pj (pj J2 39 0 0) 39 0 3, A2, 0, ?_, S2, MI_0 (MI_0 M2 0) 3, pj_s, fun q => absurd q (by decide), fun o ho => by rw [pj_row (by omega), pj_row (by omega), q1 o (by omega)], fun j hj => q3 j (by omega)⟩
        rw [hpre, hfi]
        unfold b_Model_remove_36 b_Model_remove_74 b_Model_remove_77
        simp only [wp_M, wg_M, wo_M, Option.bind_some]
        rw [pj_s, if_pos rfl, if_pos (nI_pos' (by omega)), pj_k (by decide), t3, hrest, Option.bind_some]
        simp only []
        rw [nI_add, if_neg (show ¬ nI _ ≤ (1600 : Int32) from nI_ge (a := 1600) (by omega) (by omega))]
        simp only [wp_M, wg_M, Option.bind_some]
        rw [pj_s, if_neg (by decide)]
theorem isB_take {L : List Int32} (hb : ∀ b ∈ L, isB b) {n : Nat} : ∀ b ∈ L.take n, isB b := fun b h => hb b (List.mem_of_mem_take h)
theorem isB_fin {L U : List Int32} (hb : ∀ b ∈ L, isB b) (hU : ∀ b ∈ U, isB b) {wd n d : Int32} {e : Nat} : ∀ b ∈ fin L wd n d e U, isB b := isB_app (isB_app hU (isB_eE _ _ _ _ _)) (isB_slc hb)
theorem step_633 : StepAt b_Law_law_633 := by
  intro F sc K k w hF hl hk hI
  unfold b_Law_law_633
  simp only [sg_ hl (show k + 1 < sc.length by omega) (show (1 : Int32) = nI 1 from rfl), Option.bind_some]
  generalize sc[k + 1] = y
  refine call_step (fun w => f_Law_remove F 0 y 60 w) (fun w => f_Model_remove F 39 y w) hI ?_
  intro J A s x Q B L wd hS hC hM hG
  have c := c_remove (s := s) (x := x) (Q := Q) hF y hS hC hG
  have m := fun J1 A1 s1 Q1 S1 M1 => m_remove (J := J1) (A := A1) (s := s1) (Q := Q1) hF y S1 M1 hG
  cases ho : opS L with
  | none => exact ⟨1, 0, B, L, wd, hG, c.1 ho, fun J1 A1 s1 Q1 S1 M1 => (m J1 A1 s1 Q1 S1 M1).1 ho⟩
  | some v =>
    obtain ⟨e, ds, de, es⟩ := v
    by_cases hy : y ∈ nms es
    · obtain ⟨-, -, -, hnd, h8, hd1, hd2, hd3⟩ := opS_some ho
      obtain ⟨i, hi, -, hfc, -⟩ : ∃ i, ∃ h : i < es.length, nI (es[i] 0) = y ∧ fcF y (nms es) 0 = nI i ∧ fiS (nms es) y es.length = nI i := by
        rcases find_cases (xs := nms es) y hnd (List.take_of_length_le (by unfold nms; rw [List.length_map]; exact Nat.le_refl _)) h8 with q | q
        · exact q
        · exact absurd hy q.2.2
      by_cases hle : (fin L wd (nI (es.length - 1)) (nI ds) e (L.take ds ++ kpL L i 0 es)).length ≤ 1600
      · exact ⟨0, nI (es.length - 1), B, fin L wd (nI (es.length - 1)) (nI ds) e (L.take ds ++ kpL L i 0 es), wd, GI_file hG hle (isB_fin hG.2.2.2.2 (isB_app (isB_take hG.2.2.2.2) (isB_kpL hG.2.2.2.2))), ((c.2 e ds de es ho).2 i hi hfc).1 hle, fun J1 A1 s1 Q1 S1 M1 => (((m J1 A1 s1 Q1 S1 M1).2 e ds de es ho).2 i hi hfc).1 hle⟩
      · exact ⟨3, 0, B, L, wd, hG, ((c.2 e ds de es ho).2 i hi hfc).2 (by omega), fun J1 A1 s1 Q1 S1 M1 => (((m J1 A1 s1 Q1 S1 M1).2 e ds de es ho).2 i hi hfc).2 (by omega)⟩
    · exact ⟨2, 0, B, L, wd, hG, (c.2 e ds de es ho).1 hy, fun J1 A1 s1 Q1 S1 M1 => ((m J1 A1 s1 Q1 S1 M1).2 e ds de es ho).1 hy⟩
