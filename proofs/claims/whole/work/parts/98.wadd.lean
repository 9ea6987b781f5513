/-! add, by the reference. -/
section Wa
variable {J : yJ} {A : yA} {s : Nat} {Q : zW} {F : Nat} {B L : List Int32} {wd y me z : Int32} {n ds de e left nn : Nat} {lt : Bool} {es : List Ent}
theorem m_sb_l {K : yA} (hS : Sh K) (h1 : J 39 1 = nI B.length) (h40 : (K 40).take B.length = B) (hB : B.length ≤ 200) : ∀ (m k : Nat), k ≤ B.length → B.length - k < m → l_Model_storeBuffer_10 F m 39 (nI k) (YW J (ud K 42 (wr (K 42) 0 (B.take k))) s Q) = some ((), YW J (ud K 42 (wr (K 42) 0 B)) s Q) := by
  intro m
  induction m with
  | zero => intro k _ h2; omega
  | succ m ih =>
    intro k hk h2
    have hl : (K 42).length = aL 42 := hS 42
    have hl2 : aL 42 ≥ 227 := by decide
    have hl3 : aL 42 ≤ 2000 := by decide
    show b_Model_storeBuffer_10 F (l_Model_storeBuffer_10 F m) 39 (nI k) _ = _
    unfold b_Model_storeBuffer_10
    simp only [wg_M, Option.bind_some, h1]
    have ht : (B.take k).length = k := by rw [List.length_take]; omega
    by_cases hlt : k < B.length
    · have hg : aget (YW J (ud K 42 (wr (K 42) 0 (B.take k))) s Q) 40 (nI k) = some B[k] := ag_ (by decide) (by omega) (by rw [ud_n (by decide)]; exact take_get h40 hlt)
      rw [if_neg (nI_ge hlt (by omega)), hg, Option.bind_some, as_ (by decide) (by rw [ud_s, wr_len (by omega)]; omega) (by rw [ud_s, wr_len (by omega)]; omega), Option.bind_some, nI_1, ud_ud, ud_s, wr_set (by rw [wr_len (by omega)]; omega)]
      have e := wr_wr (xs := K 42) (n := 0) (X := B.take k) (Y := [B[k]]) (by rw [List.length_singleton]; omega)
      rw [Nat.zero_add, ht] at e
      rw [e, List.take_append_getElem hlt]
      exact ih (k + 1) (by omega) (by omega)
    · rw [if_pos (nI_le (by omega) (by omega)), List.take_of_length_le (by omega)]
theorem m_store (hF : 20000 ≤ F) (hS : Sh A) (h1 : J 39 1 = nI B.length) (h2 : (A 40).take B.length = B) (hB : B.length ≤ 200) : ∃ J' A', f_Model_storeBuffer F 39 (YW J A s Q) = some ((), YW J' A' s Q) ∧ mfr J A J' A' ∧ J' 39 6 = nI B.length ∧ (A' 42).take B.length = B := by
  have hl : (A 42).length = aL 42 := hS 42
  have hl2 : aL 42 ≥ 227 := by decide
  have k := m_sb_l (F := F) (s := s) (Q := Q) (J := pj J 39 6 (nI B.length)) hS (by rw [pj_k (by decide)]; exact h1) h2 hB F 0 (Nat.zero_le _) (by omega)
  rw [List.take_zero, wr_nil, ud_id rfl] at k
  refine ⟨pj J 39 6 (nI B.length), ud A 42 (wr (A 42) 0 B), ?_, ⟨hS.ud (wr_len (by omega)), ?_, ?_, ?_⟩, pj_s, ?_⟩
  · unfold f_Model_storeBuffer b_Model_storeBuffer_0
    simp only [wg_M, wp_M, Option.bind_some, h1]
    exact k
  · intro o ho; exact pj_row ho
  · intro k h6 _ _; exact pj_k h6
  · intro j hj; exact ud_n (by omega)
  · rw [ud_s]; exact wr0_take (by omega)
/-- the content is made -/
theorem m_con (hF : 20000 ≤ F) (hS : Sh A) (h1 : J 39 1 = nI B.length) (h2 : (A 40).take B.length = B) (hB : B.length ≤ 200) (hb : ∀ b ∈ B, isB b) (v3 v4 s0 : Int32) : ∃ J' A', b_Model_add_72 F 39 y me v3 v4 s0 (YW J A s Q) = b_Model_add_91 F 39 y me v3 v4 s0 (YW J' A' s Q) ∧ mfr J A J' A' ∧ J' 39 6 = nI (conB me B).length ∧ (A' 42).take (conB me B).length = conB me B := by
  unfold conB b_Model_add_72
  by_cases c8 : me = 8
  · obtain ⟨J', A', q1, q2, q3, q4⟩ := m_packBuffer (F := F) (s := s) (Q := Q) hF hS h1 h2 hB hb
    refine ⟨J', A', ?_, q2, ?_, ?_⟩
    · rw [if_pos c8]
      simp only [wo_M, Option.bind_some, q1]
    · rw [if_pos c8]; exact q3
    · rw [if_pos c8]; exact q4
  · obtain ⟨J', A', q1, q2, q3, q4⟩ := m_store (F := F) (s := s) (Q := Q) hF hS h1 h2 hB
    refine ⟨J', A', ?_, q2, ?_, ?_⟩
    · rw [if_neg c8]
      simp only [wo_M, Option.bind_some, q1]
    · rw [if_neg c8]; exact q3
    · rw [if_neg c8]; exact q4
theorem m_91 (h5 : J 39 5 = wd) (hy : isNam y n) (v4 v5 : Int32) : b_Model_add_91 F 39 y me (bI lt) v4 v5 (YW J A s Q) = b_Model_add_141 F 39 y me v4 v5 (flg lt) (bI (farB wd lt)) (nI (76 + 2 * nbN n)) (nI (if farB wd lt then 48 else 0)) (YW J A s Q) := by
  obtain ⟨rfl, -, h2, -⟩ := hy
  have h119 : ∀ (f : Int32) (fr : Bool), b_Model_add_119 F 39 (nI n) me v4 v5 f (bI fr) (YW J A s Q) = b_Model_add_141 F 39 (nI n) me v4 v5 f (bI fr) (nI (76 + 2 * nbN n)) (nI (if fr then 48 else 0)) (YW J A s Q) := by
    intro f fr
    unfold b_Model_add_119
    rw [m_bo h2, Option.bind_some]
    simp only []
    rw [show (2 : Int32) = nI 2 from rfl, show (76 : Int32) = nI 76 from rfl, pk_mul, nI_add]
    cases fr with
    | false => rw [if_pos (show bI false = 0 from rfl)]; rfl
    | true => rw [if_neg (show ¬ bI true = 0 by decide)]; rfl
  have h101 : ∀ f, b_Model_add_101 F 39 (nI n) me (bI lt) v4 v5 f (YW J A s Q) = b_Model_add_119 F 39 (nI n) me v4 v5 f (bI (farB wd lt)) (YW J A s Q) := by
    intro f
    unfold b_Model_add_101 b_Model_add_118 farB
    rw [show getI (YW J A s Q) 39 9 5 = some (J 39 5) from rfl, Option.bind_some, h5]
    by_cases c : wd = 0
    · rw [if_pos c, decide_eq_false (fun q => q.1 c)]; rfl
    · rw [if_neg c]
      cases lt with
      | false => rw [if_pos (show bI false = 0 from rfl), decide_eq_true ⟨c, by decide⟩]; rfl
      | true => rw [if_neg (show ¬ bI true = 0 by decide), decide_eq_false (fun q => q.2 rfl)]; rfl
  rw [← h119, ← h101]
  unfold b_Model_add_91
  cases lt with
  | false => rw [if_pos (show bI false = 0 from rfl)]; rfl
  | true => rw [if_neg (show ¬ bI true = 0 by decide)]; rfl
theorem m_rest0 (h1 : ds ≤ de) (h2 : de ≤ e) (h3 : e + 22 ≤ L.length) (k19 : J 39 19 = nI de) (k18 : J 39 18 = nI ds) (k5 : J 39 5 = wd) (k3 : J 39 3 = nI L.length) (k16 : J 39 16 = nI e) : f_Model_restBut F 39 (-1) (YW J A s Q) = some (nI (de - ds + (if wd = 0 then 22 else 98) + (L.length - (e + 22))), YW J A s Q) := by
  have key : ∀ c : Nat, 22 ≤ c → ((((nI (de - ds) - 0) + nI c) + nI L.length) - nI e) - (22 : Int32) = nI (de - ds + c + (L.length - (e + 22))) := by
    intro c hc
    rw [show (0 : Int32) = nI 0 from rfl, pk_sub (Nat.zero_le _), Nat.sub_zero, nI_add, nI_add, pk_sub (by omega), show (22 : Int32) = nI 22 from rfl, pk_sub (by omega)]
    congr 1
    omega
  unfold f_Model_restBut b_Model_restBut_0 b_Model_restBut_21 b_Model_restBut_47
  rw [if_neg (by decide)]
  simp only [wg_M, Option.bind_some, k19, k18, k5, k3, k16]
  rw [pk_sub h1]
  by_cases h : wd = 0
  · rw [if_pos h, if_pos h]
    exact congrArg (fun z => some (z, YW J A s Q)) (key 22 (by decide))
  · rw [if_neg h, if_neg h]
    exact congrArg (fun z => some (z, YW J A s Q)) (key 98 (by decide))
theorem m_rest (hz : adS y es z left nn) (h8 : es.length ≤ 8) (hE : ME A es) (hch : chn de ds es de) (h1 : ds ≤ de) (h2 : de ≤ e) (h3 : e + 22 ≤ L.length) (k19 : J 39 19 = nI de) (k18 : J 39 18 = nI ds) (k5 : J 39 5 = wd) (k3 : J 39 3 = nI L.length) (k16 : J 39 16 = nI e) : f_Model_restBut F 39 z (YW J A s Q) = some (nI ((kpL L left 0 es).length + (if wd = 0 then 22 else 98) + (L.length - (e + 22))), YW J A s Q) := by
  rcases hz.2 with ⟨hi, rfl, -⟩ | ⟨rfl, rfl, -⟩
  · have hci := chn_at hch left hi
    have hkl := kpL_len1 (L := L) (left := left) (i := 0) (de := de) (by omega) hch (Nat.zero_le _) (List.getElem?_eq_getElem hi)
    rw [m_restBut (F := F) (J := J) (A := A) (s := s) (Q := Q) (L := L) (wd := wd) (ds := ds) (de := de) (e := e) (X := es[left]) (i := left) (by omega) (hE left hi 7 (by decide)) (hE left hi 8 (by decide)) hci.1 (by omega) h1 h2 h3 k19 k18 k5 k3 k16, show de - ds - (es[left] 8 - es[left] 7) = (kpL L left 0 es).length by omega]
  · have hkl := kpL_len0 (L := L) (left := 8) (i := 0) (de := de) (by omega) hch (Or.inr (by omega))
    rw [m_rest0 h1 h2 h3 k19 k18 k5 k3 k16, hkl]
/-- the writing -/
theorem m_187 (hF : 20000 ≤ F) (hS : Sh A) (hM : MI J A B L wd) (hG : GI B L wd) (hy : isNam y n) (h0 : J 39 0 = 0) (h6 : J 39 6 = nI (conB me B).length) (h42 : (A 42).take (conB me B).length = conB me B) (t1 : J 39 16 = nI e) (t2 : J 39 17 = nI es.length) (t3 : J 39 18 = nI ds) (hE : ME A es) (h8 : es.length ≤ 8) (hch : chn de ds es de) (hd1 : ds ≤ de) (hd2 : de ≤ e) (hd3 : e + 22 ≤ L.length) (hz : adS y es z left nn) (hle : (adL L B wd y me (nbN n) ds e lt left es (nI nn)).length ≤ 1600) : MO J A s Q (b_Model_add_187 F 39 y me z (nI nn) (flg lt) (bI (farB wd lt)) 39 0 (YW J A s Q)) 0 (nI nn) B (adL L B wd y me (nbN n) ds e lt left es (nI nn)) wd := by
  have hL := hG.2.2.1
  have hB := hG.2.1
  have hcl := conB_len (me := me) hB
  have hnb := nbN_le n
  have hlen := adL_len (B := B) (wd := wd) (y := y) (me := me) (nn := nI nn) (nb := nbN n) (ds := ds) (lt := lt) (left := left) (es := es) hd3
  have hlU := adU_len (L := L) (B := B) (wd := wd) (y := y) (me := me) (nb := nbN n) (ds := ds) (lt := lt) (left := left) (es := es)
  have hlP := adP_len (L := L) (B := B) (wd := wd) (y := y) (me := me) (nb := nbN n) (lt := lt) (show ds ≤ L.length by omega)
  have hw : 22 ≤ (if wd = 0 then (22 : Nat) else 98) := by by_cases h : wd = 0 <;> simp [h]
  obtain ⟨J3, A3, f1, S3, f2, f3, f4, f5⟩ := m_becomes (F := F) (J := pj J 39 0 0) (A := A) (s := s) (Q := Q) hF hS (MI_0 hM 0) hle
  refine ⟨J3, A3, nI nn, ?_, S3, f2, by rw [f3 0 (by decide) (by decide), pj_s], fun _ => rfl, fun o ho => by rw [f4 o ho, pj_row (by omega)], f5⟩
  rw [pj_id h0] at f1
  unfold b_Model_add_187
  simp only [wp_M, wg_M, Option.bind_some]
  rw [pj_id h0, h0, if_pos (by decide), md_0]
  simp only [md_g, md_o, Option.bind_some]
  have p1 := m_putFile (F := F) (J := J) (A := A) (s := s) (Q := Q) (T := []) (L := L) (p := 0) (q := ds) hF hS hM.2.2.2.1 hL (Nat.zero_le _) (by omega) (by rw [List.length_nil]; omega)
  rw [slc_0, List.nil_append, show (nI 0 : Int32) = 0 from rfl] at p1
  have hlt : lt = decide (flg lt = 8) := by cases lt <;> decide
  have p2 : f_Model_putLocal F 39 y (flg lt) me (bI (farB wd lt)) (md J A s Q (L.take ds)) = some ((), md J A s Q (adP L B wd y me (nbN n) ds lt)) := m_putLocal (F := F) (J := J) (A := A) (s := s) (Q := Q) (T := L.take ds) (B := B) (C := conB me B) (n := n) (y := y) (f := flg lt) (me := me) (lt := lt) (fr := farB wd lt) hF hS hy hM.1 hM.2.1 (by omega) h6 h42 (by omega) (isB_conB hG.2.2.2.1) hlt (by rw [List.length_take]; omega)
  have p3 := m_putParts (F := F) (J := J) (A := A) (s := s) (Q := Q) (T := adP L B wd y me (nbN n) ds lt) (L := L) (es := es) (de := de) (left := left) (x := z) hF hS hM.2.2.2.1 hL t2 h8 hE (by omega) (fun i h => ⟨(chn_at hch i h).1, (chn_at hch i h).2.1⟩) (adS_x h8 hz) (by omega)
  have p4 : f_Model_putPart F 39 y (flg lt) me (bI (farB wd lt)) (md J A s Q (adP L B wd y me (nbN n) ds lt ++ kpL L left 0 es)) = some ((), md J A s Q (adU L B wd y me (nbN n) ds lt left es)) := m_putPart (F := F) (J := J) (A := A) (s := s) (Q := Q) (T := adP L B wd y me (nbN n) ds lt ++ kpL L left 0 es) (B := B) (n := n) (y := y) (f := flg lt) (me := me) (fr := farB wd lt) hF hS hy hM.1 hM.2.1 (by omega) h6 t3 (by rw [List.length_append]; omega)
  have p5 := m_putEnd (F := F) (J := J) (A := A) (s := s) (Q := Q) (T := adU L B wd y me (nbN n) ds lt left es) hF hS (nI nn) (nI (adP L B wd y me (nbN n) ds lt).length) (nI (L.length - (e + 22))) (by omega)
  have p6 := m_putFile (F := F) (J := J) (A := A) (s := s) (Q := Q) (T := adU L B wd y me (nbN n) ds lt left es ++ eE wd (nI nn) (nI (adP L B wd y me (nbN n) ds lt).length) (nI (adU L B wd y me (nbN n) ds lt left es).length) (nI (L.length - (e + 22)))) (L := L) (p := e + 22) (q := L.length) hF hS hM.2.2.2.1 hL hd3 (Nat.le_refl _) (by rw [List.length_append, eE_len]; omega)
  rw [show pj J 39 31 0 39 18 = nI ds by rw [pj_k (by decide)]; exact t3, p1, Option.bind_some]
  simp only [md_o]
  rw [p2, Option.bind_some]
  simp only [md_g, md_o, Option.bind_some]
  rw [p3, Option.bind_some]
  simp only [md_o]
  rw [p4, Option.bind_some]
  simp only [md_g, md_o, Option.bind_some]
  rw [hM.2.2.1, t1, pk_sub (by omega), show (22 : Int32) = nI 22 from rfl, pk_sub (by omega), show L.length - e - 22 = L.length - (e + 22) by omega, p5, Option.bind_some]
  simp only [md_g, md_o, Option.bind_some]
  rw [hM.2.2.1, t1, nI_add, hM.2.2.2.2.1, p6, Option.bind_some]
  simp only [md_o]
  unfold adL fin slc at f1
  rw [f1, Option.bind_some]
theorem m_141 (hF : 20000 ≤ F) (hS : Sh A) (hM : MI J A B L wd) (hG : GI B L wd) (hy : isNam y n) (h0 : J 39 0 = 0) (h6 : J 39 6 = nI (conB me B).length) (h42 : (A 42).take (conB me B).length = conB me B) (t1 : J 39 16 = nI e) (t2 : J 39 17 = nI es.length) (t3 : J 39 18 = nI ds) (t4 : J 39 19 = nI de) (hE : ME A es) (h8 : es.length ≤ 8) (hch : chn de ds es de) (hd1 : ds ≤ de) (hd2 : de ≤ e) (hd3 : e + 22 ≤ L.length) (hz : adS y es z left nn) :
    (8 < nn → MO J A s Q (b_Model_add_91 F 39 y me (bI lt) z (nI nn) (YW J A s Q)) 3 0 B L wd) ∧
    (nn ≤ 8 → ((adL L B wd y me (nbN n) ds e lt left es (nI nn)).length ≤ 1600 → MO J A s Q (b_Model_add_91 F 39 y me (bI lt) z (nI nn) (YW J A s Q)) 0 (nI nn) B (adL L B wd y me (nbN n) ds e lt left es (nI nn)) wd) ∧ (1600 < (adL L B wd y me (nbN n) ds e lt left es (nI nn)).length → MO J A s Q (b_Model_add_91 F 39 y me (bI lt) z (nI nn) (YW J A s Q)) 3 0 B L wd)) := by
  have hL := hG.2.2.1
  have hB := hG.2.1
  have hcl := conB_len (me := me) hB
  have hnb := nbN_le n
  have hnn : nn ≤ 9 := by rcases hz.2 with ⟨h1, h2, h3⟩ | ⟨h1, h2, h3⟩ <;> omega
  have hrest := m_rest (F := F) (s := s) (Q := Q) hz h8 hE hch hd1 hd2 hd3 t4 t3 hM.2.2.2.2.1 hM.2.2.1 t1
  have t18 : ∀ v4 v6 v7, MO J A s Q (b_Model_add_182 F 39 y me v4 (nI nn) v6 v7 39 (YW J A s Q)) 3 0 B L wd := by
    intro v4 v6 v7
    refine ⟨pj J 39 0 3, A, 0, ?_, hS, MI_0 hM 3, pj_s, fun q => absurd q (by decide), fun o ho => pj_row (by omega), fun j hj => rfl⟩
    unfold b_Model_add_182 b_Model_add_187
    simp only [wp_M, wg_M, Option.bind_some]
    rw [pj_s, if_neg (by decide)]
  have hlen := adL_len (B := B) (wd := wd) (y := y) (me := me) (nn := nI nn) (nb := nbN n) (ds := ds) (lt := lt) (left := left) (es := es) hd3
  have hlU := adU_len (L := L) (B := B) (wd := wd) (y := y) (me := me) (nb := nbN n) (ds := ds) (lt := lt) (left := left) (es := es)
  have hlP := adP_len (L := L) (B := B) (wd := wd) (y := y) (me := me) (nb := nbN n) (lt := lt) (show ds ≤ L.length by omega)
  have hkd : (kpL L left 0 es).length ≤ de - ds := by
    rcases hz.2 with ⟨hi, -, -⟩ | ⟨-, rfl, -⟩
    · have := kpL_len1 (L := L) (left := left) (i := 0) (de := de) (by omega) hch (Nat.zero_le _) (List.getElem?_eq_getElem hi)
      omega
    · have := kpL_len0 (L := L) (left := 8) (i := 0) (de := de) (by omega) hch (Or.inr (by omega))
      omega
  have hsum : nI ds + (nI (76 + 2 * nbN n) + nI (if farB wd lt then 48 else 0) + nI (conB me B).length + (2 : Int32) * flg lt) + nI ((kpL L left 0 es).length + (if wd = 0 then 22 else 98) + (L.length - (e + 22))) = nI (adL L B wd y me (nbN n) ds e lt left es (nI nn)).length := by
    have e1 : (2 : Int32) * flg lt = nI (if lt then 16 else 0) := by cases lt <;> decide
    rw [e1, nI_add, nI_add, nI_add, nI_add, nI_add, hlen, hlU, hlP]
    congr 1
    cases farB wd lt with
    | false => simp only [Bool.false_eq_true, if_false]; omega
    | true => simp only [if_true]; omega
  have hbig : (adL L B wd y me (nbN n) ds e lt left es (nI nn)).length ≤ 10000 := by
    have hw : (if wd = 0 then (22 : Nat) else 98) ≤ 98 := by by_cases h : wd = 0 <;> simp [h]
    have h1 : (if farB wd lt then (20 : Nat) else 0) ≤ 20 := by cases farB wd lt <;> decide
    have h2 : (if farB wd lt then (28 : Nat) else 0) ≤ 28 := by cases farB wd lt <;> decide
    have h3 : (if lt then (16 : Nat) else 0) ≤ 16 := by cases lt <;> decide
    omega
  have h141 : b_Model_add_91 F 39 y me (bI lt) z (nI nn) (YW J A s Q) = if (8 : Int32) < nI nn then (b_Model_add_182 F 39 y me z (nI nn) (flg lt) (bI (farB wd lt)) 39 (YW J A s Q)) else (if nI (adL L B wd y me (nbN n) ds e lt left es (nI nn)).length ≤ (1600 : Int32) then (b_Model_add_187 F 39 y me z (nI nn) (flg lt) (bI (farB wd lt)) 39 (0 : Int32) (YW J A s Q)) else (b_Model_add_182 F 39 y me z (nI nn) (flg lt) (bI (farB wd lt)) 39 (YW J A s Q))) := by
    rw [m_91 hM.2.2.2.2.1 hy]
    unfold b_Model_add_141
    simp only [wg_M, wo_M, Option.bind_some, hrest, h6, t3]
    rw [hsum]
  refine ⟨?_, ?_⟩
  · intro hgt
    rw [h141, if_pos (show (8 : Int32) < nI nn from nI_lt (a := 8) hgt (by omega))]
    exact t18 _ _ _
  · intro hle
    rw [h141, if_neg (show ¬ (8 : Int32) < nI nn from nI_nlt (b := nn) (a := 8) hle (by decide))]
    refine ⟨?_, ?_⟩
    · intro hl
      rw [if_pos (show nI _ ≤ (1600 : Int32) from nI_le (b := 1600) hl (by decide))]
      exact m_187 hF hS hM hG hy h0 h6 h42 t1 t2 t3 hE h8 hch hd1 hd2 hd3 hz hl
    · intro hg
      rw [if_neg (show ¬ nI _ ≤ (1600 : Int32) from nI_ge (a := 1600) hg (by omega))]
      exact t18 _ _ _
end Wa
