/-! crc, wide, cut, poke. -/
theorem MR_mk {w w' : zW} {B B' L L' : List Int32} {wd wd' : Int32} {i j : Nat → Int32} (h : MR w B L wd i) (f : Fr [39, 40, 41] w w') (ho : zobj w' 39 9 = some (mkM j)) (h1 : j 1 = nI B'.length) (h3 : j 3 = nI L'.length) (h5 : j 5 = wd') (hb : ∃ xs, zints w' 40 = some xs ∧ xs.length = 200 ∧ xs.take B'.length = B') (hl : ∃ ys, zints w' 41 = some ys ∧ ys.length = 1600 ∧ ys.take L'.length = L') : MR w' B' L' wd' j :=
  ⟨ho, h1, h3, h5, hb, hl, MS_at (fun q k1 k2 => f.2 q (by simp; omega)) h.2.2.2.2.2.2⟩
theorem st_in (F : Nat) (w : zW) : ∀ (k n j : Nat) (x : Int32), j + k = 8 → k < n → l_Model_stir_6 F n x (nI j) w = some (cN k x, w) := by
  intro k
  induction k with
  | zero =>
    intro n j x hj hn
    obtain ⟨n, rfl⟩ : ∃ m, n = m + 1 := ⟨n - 1, by omega⟩
    have : j = 8 := by omega
    subst this
    show b_Model_stir_6 F (l_Model_stir_6 F n) x (nI 8) w = _
    unfold b_Model_stir_6
    rw [if_pos (by decide)]
    rfl
  | succ k ih =>
    intro n j x hj hn
    obtain ⟨n, rfl⟩ : ∃ m, n = m + 1 := ⟨n - 1, by omega⟩
    show b_Model_stir_6 F (l_Model_stir_6 F n) x (nI j) w = _
    unfold b_Model_stir_6
    rw [if_neg (show ¬ (8 : Int32) ≤ nI j from nI_ge (b := 8) (by omega) (by omega))]
    unfold b_Model_stir_31
    rw [nI_1]
    show _ = some (cN k (cstep x), w)
    rw [← ih n (j + 1) (cstep x) (by omega) (by omega)]
    unfold cstep ush1
    split <;> rfl
theorem stir_ (F : Nat) (hF : 20000 ≤ F) (w : zW) (r b : Int32) : f_Model_stir F r b w = some (cN 8 (r ^^^ b), w) := by
  show l_Model_stir_6 F F (r ^^^ b) (nI 0) w = _
  exact st_in F w 8 F 0 _ rfl (by omega)
theorem mcrc {w : zW} {B : List Int32} {i : Nat → Int32} {xs : List Int32} (F : Nat) (hF : 20000 ≤ F) (ho : zobj w 39 9 = some (mkM i)) (h1 : i 1 = nI B.length) (hx : zints w 40 = some xs) (ht : xs.take B.length = B) (hB : B.length ≤ 1600) : ∀ (n k : Nat) (x : Int32), k ≤ B.length → B.length - k < n → l_Model_crcOfBuffer_4 F n 39 x (nI k) w = some (-1 - crcF (B.drop k) x, w) := by
  intro n
  induction n with
  | zero => intro k x _ h2; omega
  | succ n ih =>
    intro k x hk h2
    show b_Model_crcOfBuffer_4 F (l_Model_crcOfBuffer_4 F n) 39 x (nI k) w = _
    unfold b_Model_crcOfBuffer_4
    rw [md_g1 ho, Option.bind_some, h1]
    by_cases hlt : k < B.length
    · have hg : xs[k]? = some B[k] := by
        have : (xs.take B.length)[k]? = some B[k] := by rw [ht]; exact List.getElem?_eq_getElem hlt
        rwa [List.getElem?_take_of_lt hlt] at this
      rw [if_neg (nI_ge hlt (by omega)), md_r2 ho, Option.bind_some, aget_of hx (by omega) hg, Option.bind_some, stir_ F hF, Option.bind_some, nI_1]
      simp only []
      rw [ih (k + 1) _ (by omega) (by omega), List.drop_eq_getElem_cons hlt]
      rfl
    · have : k = B.length := by omega
      subst this
      rw [if_pos (nI_le (Nat.le_refl _) (by omega)), List.drop_length]
      rfl
theorem m_crcB {w : zW} {B L : List Int32} {wd : Int32} {i : Nat → Int32} (F : Nat) (hF : 20000 ≤ F) (hM : MR w B L wd i) (hB : B.length ≤ 200) : f_Model_crcOfBuffer F 39 w = some (crcL B, w) := by
  obtain ⟨a1, a2, a3, a4, ⟨xs, a5, a6, a7⟩, -⟩ := hM
  show l_Model_crcOfBuffer_4 F F 39 (-1) (nI 0) w = _
  rw [mcrc F hF a1 a2 a5 a7 (by omega) F 0 (-1) (Nat.zero_le _) (by omega)]
  rfl
theorem step_386 : StepAt b_Law_law_386 := by
  intro F sc K k w hF hl hk hI
  obtain ⟨B, L, wd, i, hC, hM, hw, hB, hL, bB, bL, ⟨x, hx⟩, h61⟩ := hI
  obtain ⟨c1, ⟨o1, c2⟩, c3, c4, c5⟩ := id hC
  have hM1 := MR_i (j := upd i 0 0) hM rfl rfl rfl
  refine ⟨wM w (upd i 0 0), ⟨B, L, wd, _, CR_at (fun j hj => wM_Fr.2 j (by simp; omega)) hC, hM1, hw, hB, hL, bB, bL, ⟨x, ?_⟩, len61 wM_Fr h61⟩, ?_⟩
  · rw [wM_Fr.longs (by decide)]; exact hx
  · unfold b_Law_law_386
    have e1 := rw_crc F hF c2
    have e2 := m_crcB F hF hM1 hB
    generalize crcL B = z at e1 e2
    rw [c1, Option.bind_some]
    unfold f_Zip_crc b_Zip_crc_0
    rw [(zip_r c1).1, Option.bind_some, rw_obj c2, Option.bind_some, e1, Option.bind_some, Option.bind_some, hM.1, Option.bind_some]
    unfold f_Model_crc b_Model_crc_0
    simp only []
    rw [md_p0 hM.1, Option.bind_some, hM1.1, Option.bind_some, e2, Option.bind_some, Option.bind_some, if_pos rfl, l1123]
theorem step_498 : StepAt b_Law_law_498 := by
  intro F sc K k w hF hl hk hI
  obtain ⟨B, L, wd, i, hC, hM, hw, hB, hL, bB, bL, ⟨x, hx⟩, h61⟩ := hI
  obtain ⟨c1, c2, c3, c4, c5⟩ := id hC
  have key : ∀ v : Int32, (v = 0 ∨ v = 1) → ∃ w', II w' ∧ (f_Zip_wide F 0 v w).bind (fun r => (zobj r.2 39 9).bind fun _ => (f_Model_wide F 39 v r.2).bind fun r2 => b_Law_law_1123 F sc K 0 39 60 (nI k) r2.2) = K 0 39 60 (nI (k + 4)) w' := by
    intro v hv
    have f1 : Fr [35] w (w.set 35 (.inr (.inr (.inr (7, [.inr (some 36), .inl v]))))) := Fr.set (by simp)
    have e1 : putI w 35 7 1 v = some (w.set 35 (.inr (.inr (.inr (7, [.inr (some 36), .inl v]))))) := by rw [putI_of c4 (show 1 < 2 by decide)]; rfl
    generalize hw1 : w.set 35 (.inr (.inr (.inr (7, [.inr (some 36), .inl v])))) = w1 at f1 e1
    have hC1 : CR w1 B L v := by
      obtain ⟨o2, c2⟩ := c2
      obtain ⟨o3, c3⟩ := c3
      refine ⟨(f1.obj (by decide)).trans c1, ⟨o2, f1.rw (by decide) (by decide) c2⟩, ⟨o3, f1.rw (by decide) (by decide) c3⟩, ?_, SC_at (fun j _ _ h => f1.2 j (by simpa using h)) c5⟩
      rw [← hw1]
      exact zobj_eq (zobj_lt c4)
    have hM1 : MR w1 B L wd i := MR_at (fun j h1 h2 => f1.2 j (by simp; omega)) hM
    refine ⟨wM w1 (upd (upd i 0 0) 5 v), ⟨B, L, v, _, CR_at (fun j hj => wM_Fr.2 j (by simp; omega)) hC1, MR_new hM1 (fun _ q => q) hM.2.1 hM.2.2.1 rfl, hv, hB, hL, bB, bL, ⟨x, ?_⟩, len61 wM_Fr (len61 f1 h61)⟩, ?_⟩
    · rw [wM_Fr.longs (by decide), f1.longs (by decide)]; exact hx
    · simp only [f_Zip_wide, b_Zip_wide_0, (zip_r c1).2.2.2.2.2.2.2.1, Option.bind_some, if_pos hv, e1, hM1.1, f_Model_wide, b_Model_wide_0, md_p0 hM1.1, md_p5 (wM_obj hM1.1), wM_wM]
      exact l1123
  unfold b_Law_law_498
  rw [show (1 : Int32) = nI 1 from rfl, nI_add, sget_of hl (by omega), Option.bind_some]
  by_cases h0 : sc[k + 1] = 0
  · obtain ⟨w', hI', e⟩ := key 0 (Or.inl rfl)
    refine ⟨w', hI', ?_⟩
    rw [if_pos h0]
    unfold b_Law_law_513
    rw [c1, Option.bind_some, ← e]
    congr 1
    funext r
    rw [show (1 : Int32) = nI 1 from rfl, nI_add, sget_of hl (by omega), Option.bind_some, if_pos h0]
    rfl
  · obtain ⟨w', hI', e⟩ := key 1 (Or.inr rfl)
    refine ⟨w', hI', ?_⟩
    rw [if_neg h0]
    unfold b_Law_law_513
    rw [c1, Option.bind_some, show (nI 1 : Int32) = 1 from rfl, ← e]
    congr 1
    funext r
    rw [show (1 : Int32) = nI 1 from rfl, nI_add, sget_of hl (by omega), Option.bind_some, if_neg h0]
    rfl

/-! calls without an answer: cut, poke -/
def Cst0 (w : zW) (f : Option (Int32 × zW)) (k : Int32) (B L : List Int32) (wd : Int32) : Prop := ∃ w1, f = some (k, w1) ∧ CR w1 B L wd ∧ (∀ j, 39 ≤ j → j < 60 → w1[j]? = w[j]?) ∧ (∃ x, zlongs w1 60 = some [x]) ∧ 61 ≤ w1.length
def Mst0 (w : zW) (f : Option (Unit × zW)) (k : Int32) (B L : List Int32) (wd : Int32) : Prop := ∃ w2 i, f = some ((), w2) ∧ MR w2 B L wd i ∧ i 0 = k ∧ (∀ j, j < 39 ∨ j = 60 → w2[j]? = w[j]?) ∧ w2.length = w.length
theorem Cst0.mono {w : zW} {f : Option (Int32 × zW)} {k : Int32} {B L : List Int32} {wd : Int32} (h : Cst0 w f k B L wd) {g : Option (Int32 × zW)} (e : g = f) : Cst0 w g k B L wd := by rw [e]; exact h
theorem cst0_thr {w : zW} {B L : List Int32} {wd k : Int32} {y : Int64} {c : zC} (hC : CR w B L wd) (hx : zlongs w 60 = some [y]) (h61 : 61 ≤ w.length) : Cst0 w (some (k, w ++ [c])) k B L wd :=
  ⟨_, rfl, CR_at (fun j hj => List.getElem?_append_left (by omega)) hC, fun j h1 h2 => List.getElem?_append_left (by omega), ⟨y, zlongs_app hx⟩, by rw [List.length_append]; omega⟩
theorem cst0_ret {w w1 : zW} {B L : List Int32} {wd : Int32} {y : Int64} (hC : CR w1 B L wd) (f : Fr [3, 4] w w1) (hx : zlongs w 60 = some [y]) (h61 : 61 ≤ w.length) : Cst0 w (some (0, w1)) 0 B L wd :=
  ⟨_, rfl, hC, fun j h1 h2 => f.2 j (by simp; omega), ⟨y, (f.longs (by decide)).trans hx⟩, len61 f h61⟩
theorem rw_cut {w : zW} {r a cap : Nat} {B : List Int32} {ov : Int32} (h : rw_ w r a cap B ov) {m : Nat} (hm : m ≤ B.length) : putI w r 0 1 (nI m) = some (w.set r (.inr (.inr (.inr (0, rowF a m ov))))) ∧ rw_ (w.set r (.inr (.inr (.inr (0, rowF a m ov))))) r a cap (B.take m) ov := by
  have ho := rw_obj h
  have hne := rw_ne h
  have hle := rw_le h
  obtain ⟨xs, h1, h2, h3⟩ := h
  refine ⟨by rw [putI_of ho (show 1 < 3 by decide)]; rfl, xs, ⟨?_, ?_, ?_, h1.2.2.2⟩, ?_, h3⟩
  · rw [List.length_take, Nat.min_eq_left hm]; exact zobj_eq (zobj_lt ho)
  · rw [zints_ne hne]; exact h1.2.1
  · rw [List.length_take]; omega
  · rw [List.length_take, Nat.min_eq_left hm]
    conv => rhs; rw [← h2]
    rw [List.take_take, Nat.min_eq_left hm]
theorem rw_poke {w : zW} {r a cap : Nat} {B : List Int32} {ov : Int32} (h : rw_ w r a cap B ov) {j : Nat} (hj : j < B.length) (b : Int32) : ∃ w', aset w a (nI j) b = some w' ∧ rw_ w' r a cap (B.set j b) ov ∧ Fr [r, a] w w' := by
  have ho := rw_obj h
  have hne := rw_ne h
  have hle := rw_le h
  obtain ⟨xs, h1, h2, h3⟩ := h
  refine ⟨_, aset_of h1.2.1 (by omega) (by omega) b, ⟨xs.set j b, ⟨?_, zints_eq (zints_lt h1.2.1), ?_, ?_⟩, ?_, ?_⟩, Fr.set (by simp)⟩
  · rw [zobj_ne (Ne.symm hne), List.length_set]; exact ho
  · rw [List.length_set, List.length_set]; exact h1.2.2.1
  · rw [List.length_set]; exact h1.2.2.2
  · rw [List.length_set, List.take_set, h2]
  · rw [List.length_set]; exact h3
theorem isByte_ (F : Nat) (b : Int32) (w : zW) : f_Zip_isByte F b w = some (if 0 ≤ b ∧ b ≤ 255 then 1 else 0, w) := by
  simp only [f_Zip_isByte, b_Zip_isByte_0, b_Zip_isByte_15]
  by_cases h1 : b < 0
  · rw [if_pos h1, if_neg (fun q => Int32.not_le.mpr h1 q.1)]
  · rw [if_neg h1]
    by_cases h2 : (255 : Int32) < b
    · rw [if_pos h2, if_neg (fun q => Int32.not_lt.mpr q.2 h2)]
    · rw [if_neg h2, if_pos ⟨Int32.not_lt.mp h1, Int32.not_lt.mp h2⟩]
theorem fin0 {F : Nat} {sc : List Int32} {K : Nat → Nat → Nat → Int32 → zW → Option (Int32 × zW)} {k : Nat} {w2 : zW} {i : Nat → Int32} {kk : Int32} (h : zobj w2 39 9 = some (mkM i)) (hk : i 0 = kk) : ((f_Model_thrown F 39 w2).bind fun r => if r.1 = kk then b_Law_law_1123 F sc K 0 39 60 (nI k) r.2 else some ((0 : Int32), r.2)) = K 0 39 60 (nI (k + 4)) w2 :=
  (tail_no F h hk (fun u => b_Law_law_1123 F sc K 0 39 60 (nI k) u) (fun u => some ((0 : Int32), u))).trans l1123
theorem step_1087 : StepAt b_Law_law_1087 := by
  intro F sc K k w hF hl hk hI
  obtain ⟨B, L, wd, i, hC, hM, hw, hB, hL, bB, bL, ⟨y, hx⟩, h61⟩ := hI
  obtain ⟨c1, c2, ⟨o3, c3⟩, c4, c5⟩ := id hC
  have hwi : ∀ w1 : zW, f_Model_within F sc[k + 1].toInt64 (0 : Int64) (nI L.length).toInt64 w1 = some (if 0 ≤ sc[k + 1] ∧ sc[k + 1] ≤ nI L.length then 1 else 0, w1) := fun w1 => by
    rw [show (0 : Int64) = (0 : Int32).toInt64 from rfl, wi]
  have key : ∃ kk L', Cst0 w (f_Law_cut F 0 sc[k + 1] w) kk B L' wd ∧ L'.length ≤ 1600 ∧ (∀ b ∈ L', isB b) ∧ ∀ w1, (∀ j, 39 ≤ j → j < 60 → w1[j]? = w[j]?) → Mst0 w1 (f_Model_cut F 39 sc[k + 1] w1) kk B L' wd := by
    by_cases hc : 0 ≤ sc[k + 1] ∧ sc[k + 1] ≤ nI L.length
    · obtain ⟨m, hm, e⟩ := nI_of (Int32.not_lt.mpr hc.1)
      have hmL : m ≤ L.length := by
        have h2 := hc.2
        rw [e] at h2
        exact (nI_leI hm (by omega)).mp h2
      obtain ⟨p1, p2⟩ := rw_cut c3 hmL
      have f1 : Fr [3, 4] w (w.set 3 (.inr (.inr (.inr (0, rowF 4 m o3))))) := Fr.set (by simp)
      refine ⟨0, L.take m, (cst0_ret (CR_file hC f1 p2) f1 hx h61).mono ?_, by rw [List.length_take]; omega, fun b hb => bL b (List.mem_of_mem_take hb), fun w1 h1 => ?_⟩
      · simp only [f_Law_cut, b_Law_cut_0, c1, Option.bind_some, f_Zip_cut, b_Zip_cut_0, (zip_r c1).2.1, rw_size c3]
        rw [if_neg (Int32.not_lt.mpr hc.1), if_pos hc.2, e, p1]
        rfl
      · have hM1 := MR_at h1 hM
        have hL' : (L.take m).length = m := by rw [List.length_take]; omega
        refine ⟨wM w1 (upd (upd i 0 0) 3 (nI m)), upd (upd i 0 0) 3 (nI m), ?_, ?_, rfl, fun q hq => wM_Fr.2 q (by simp; omega), wM_Fr.1⟩
        · simp only [f_Model_cut, b_Model_cut_0, md_g3 hM1.1, Option.bind_some, hM1.2.2.1, hwi, if_pos hc]
          rw [if_neg (by decide)]
          simp only [b_Model_cut_20, b_Model_cut_39, md_p0 hM1.1, Option.bind_some, md_g0 (wM_obj hM1.1)]
          rw [show upd i 0 0 0 = 0 from rfl, if_pos (by decide), e, md_p3 (wM_obj hM1.1), Option.bind_some, wM_wM]
        · refine MR_mk hM1 (wM_Fr.mono (by simp)) (wM_obj hM1.1) hM.2.1 (by rw [hL']; rfl) hM.2.2.2.1 ?_ ?_
          · obtain ⟨xs, q1, q2⟩ := hM1.2.2.2.2.1
            exact ⟨xs, (wM_Fr.ints (by decide)).trans q1, q2⟩
          · obtain ⟨ys, q1, q2, q3⟩ := hM1.2.2.2.2.2.1
            refine ⟨ys, (wM_Fr.ints (by decide)).trans q1, q2, ?_⟩
            rw [hL']
            conv => rhs; rw [← q3]
            rw [List.take_take, Nat.min_eq_left hmL]
    · refine ⟨1, L, (cst0_thr (c := .inr (.inr (.inr (10, [])))) hC hx h61).mono ?_, hL, bL, fun w1 h1 => ?_⟩
      · simp only [f_Law_cut, b_Law_cut_0, c1, Option.bind_some, f_Zip_cut, b_Zip_cut_0, b_Zip_cut_15, (zip_r c1).2.1, rw_size c3]
        by_cases h0 : sc[k + 1] < 0
        · simp only [if_pos h0, Option.bind_some, exc_at, if_true]
        · have h2 : ¬ sc[k + 1] ≤ nI L.length := fun q => hc ⟨Int32.not_lt.mp h0, q⟩
          simp only [if_neg h0, if_neg h2, Option.bind_some, exc_at, if_true]
      · have hM1 := MR_at h1 hM
        refine ⟨wM w1 (upd (upd i 0 1) 3 (i 3)), upd (upd i 0 1) 3 (i 3), ?_, MR_i hM1 rfl rfl rfl, rfl, fun q hq => wM_Fr.2 q (by simp; omega), wM_Fr.1⟩
        simp only [f_Model_cut, b_Model_cut_0, md_g3 hM1.1, Option.bind_some, hM1.2.2.1, hwi, if_neg hc, if_true]
        simp only [b_Model_cut_20, b_Model_cut_39, md_p0 hM1.1, Option.bind_some, md_g0 (wM_obj hM1.1)]
        rw [show upd i 0 1 0 = 1 from rfl, if_neg (by decide), md_g3 (wM_obj hM1.1), Option.bind_some, md_p3 (wM_obj hM1.1), Option.bind_some, wM_wM]
        have e3 : upd i 0 1 3 = i 3 := rfl
        rw [e3, hM1.2.2.1]
  obtain ⟨kk, L', ⟨w1, e1, C1, f1, ⟨x1, hx1⟩, l1⟩, hL', bL', hm⟩ := key
  obtain ⟨w2, i2, e2, M2, k2, f2, l2⟩ := hm w1 f1
  refine ⟨w2, II_of (w := w) (k := kk) (v := 0) (b := 0) C1 hx1 l1 M2 f2 l2 hw hB hL' bB bL', ?_⟩
  unfold b_Law_law_1087
  rw [show (1 : Int32) = nI 1 from rfl, nI_add, sget_of hl (by omega), Option.bind_some, e1, Option.bind_some, Option.bind_some]
  have ho : zobj w1 39 9 = some (mkM i) := (at_obj (f1 39 (by decide) (by decide))).trans hM.1
  simp only [ho, Option.bind_some, e2, M2.1]
  exact fin0 M2.1 k2
