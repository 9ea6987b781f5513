/-! The reference's fields: reads, writes. -/
def wM (w : zW) (i : Nat → Int32) : zW := w.set 39 (.inr (.inr (.inr (9, mkM i))))
theorem wM_obj {w : zW} {i j : Nat → Int32} (h : zobj w 39 9 = some (mkM i)) : zobj (wM w j) 39 9 = some (mkM j) := zobj_eq (zobj_lt h)
theorem wM_Fr {w : zW} {j : Nat → Int32} : Fr [39] w (wM w j) := Fr.set (by simp)
theorem wM_wM {w : zW} {i j : Nat → Int32} : wM (wM w i) j = wM w j := by unfold wM; rw [List.set_set]
section Md
variable {w : zW} {i : Nat → Int32}
theorem md_g0 (h : zobj w 39 9 = some (mkM i)) : getI w 39 9 0 = some (i 0) := getI_of h rfl
theorem md_p0 (h : zobj w 39 9 = some (mkM i)) (x : Int32) : putI w 39 9 0 x = some (wM w (upd i 0 x)) := by rw [putI_of h (show 0 < 33 by decide)]; rfl
theorem md_g1 (h : zobj w 39 9 = some (mkM i)) : getI w 39 9 1 = some (i 1) := getI_of h rfl
theorem md_p1 (h : zobj w 39 9 = some (mkM i)) (x : Int32) : putI w 39 9 1 x = some (wM w (upd i 1 x)) := by rw [putI_of h (show 1 < 33 by decide)]; rfl
theorem md_g3 (h : zobj w 39 9 = some (mkM i)) : getI w 39 9 3 = some (i 3) := getI_of h rfl
theorem md_p3 (h : zobj w 39 9 = some (mkM i)) (x : Int32) : putI w 39 9 3 x = some (wM w (upd i 3 x)) := by rw [putI_of h (show 3 < 33 by decide)]; rfl
theorem md_g5 (h : zobj w 39 9 = some (mkM i)) : getI w 39 9 5 = some (i 5) := getI_of h rfl
theorem md_p5 (h : zobj w 39 9 = some (mkM i)) (x : Int32) : putI w 39 9 5 x = some (wM w (upd i 5 x)) := by rw [putI_of h (show 5 < 33 by decide)]; rfl
theorem md_g6 (h : zobj w 39 9 = some (mkM i)) : getI w 39 9 6 = some (i 6) := getI_of h rfl
theorem md_p6 (h : zobj w 39 9 = some (mkM i)) (x : Int32) : putI w 39 9 6 x = some (wM w (upd i 6 x)) := by rw [putI_of h (show 6 < 33 by decide)]; rfl
theorem md_g8 (h : zobj w 39 9 = some (mkM i)) : getI w 39 9 8 = some (i 8) := getI_of h rfl
theorem md_p8 (h : zobj w 39 9 = some (mkM i)) (x : Int32) : putI w 39 9 8 x = some (wM w (upd i 8 x)) := by rw [putI_of h (show 8 < 33 by decide)]; rfl
theorem md_g10 (h : zobj w 39 9 = some (mkM i)) : getI w 39 9 10 = some (i 10) := getI_of h rfl
theorem md_p10 (h : zobj w 39 9 = some (mkM i)) (x : Int32) : putI w 39 9 10 x = some (wM w (upd i 10 x)) := by rw [putI_of h (show 10 < 33 by decide)]; rfl
theorem md_g11 (h : zobj w 39 9 = some (mkM i)) : getI w 39 9 11 = some (i 11) := getI_of h rfl
theorem md_p11 (h : zobj w 39 9 = some (mkM i)) (x : Int32) : putI w 39 9 11 x = some (wM w (upd i 11 x)) := by rw [putI_of h (show 11 < 33 by decide)]; rfl
theorem md_g16 (h : zobj w 39 9 = some (mkM i)) : getI w 39 9 16 = some (i 16) := getI_of h rfl
theorem md_p16 (h : zobj w 39 9 = some (mkM i)) (x : Int32) : putI w 39 9 16 x = some (wM w (upd i 16 x)) := by rw [putI_of h (show 16 < 33 by decide)]; rfl
theorem md_g17 (h : zobj w 39 9 = some (mkM i)) : getI w 39 9 17 = some (i 17) := getI_of h rfl
theorem md_p17 (h : zobj w 39 9 = some (mkM i)) (x : Int32) : putI w 39 9 17 x = some (wM w (upd i 17 x)) := by rw [putI_of h (show 17 < 33 by decide)]; rfl
theorem md_g18 (h : zobj w 39 9 = some (mkM i)) : getI w 39 9 18 = some (i 18) := getI_of h rfl
theorem md_p18 (h : zobj w 39 9 = some (mkM i)) (x : Int32) : putI w 39 9 18 x = some (wM w (upd i 18 x)) := by rw [putI_of h (show 18 < 33 by decide)]; rfl
theorem md_g19 (h : zobj w 39 9 = some (mkM i)) : getI w 39 9 19 = some (i 19) := getI_of h rfl
theorem md_p19 (h : zobj w 39 9 = some (mkM i)) (x : Int32) : putI w 39 9 19 x = some (wM w (upd i 19 x)) := by rw [putI_of h (show 19 < 33 by decide)]; rfl
theorem md_g31 (h : zobj w 39 9 = some (mkM i)) : getI w 39 9 31 = some (i 31) := getI_of h rfl
theorem md_p31 (h : zobj w 39 9 = some (mkM i)) (x : Int32) : putI w 39 9 31 x = some (wM w (upd i 31 x)) := by rw [putI_of h (show 31 < 33 by decide)]; rfl
theorem md_r2 (h : zobj w 39 9 = some (mkM i)) : getR w 39 9 2 = some 40 := getR_of h rfl
theorem md_r4 (h : zobj w 39 9 = some (mkM i)) : getR w 39 9 4 = some 41 := getR_of h rfl
theorem md_r7 (h : zobj w 39 9 = some (mkM i)) : getR w 39 9 7 = some 42 := getR_of h rfl
theorem md_r9 (h : zobj w 39 9 = some (mkM i)) : getR w 39 9 9 = some 43 := getR_of h rfl
theorem md_r12 (h : zobj w 39 9 = some (mkM i)) : getR w 39 9 12 = some 44 := getR_of h rfl
theorem md_r13 (h : zobj w 39 9 = some (mkM i)) : getR w 39 9 13 = some 45 := getR_of h rfl
theorem md_r14 (h : zobj w 39 9 = some (mkM i)) : getR w 39 9 14 = some 46 := getR_of h rfl
theorem md_r15 (h : zobj w 39 9 = some (mkM i)) : getR w 39 9 15 = some 47 := getR_of h rfl
theorem md_r20 (h : zobj w 39 9 = some (mkM i)) : getR w 39 9 20 = some 48 := getR_of h rfl
theorem md_r21 (h : zobj w 39 9 = some (mkM i)) : getR w 39 9 21 = some 49 := getR_of h rfl
theorem md_r22 (h : zobj w 39 9 = some (mkM i)) : getR w 39 9 22 = some 50 := getR_of h rfl
theorem md_r23 (h : zobj w 39 9 = some (mkM i)) : getR w 39 9 23 = some 51 := getR_of h rfl
theorem md_r24 (h : zobj w 39 9 = some (mkM i)) : getR w 39 9 24 = some 52 := getR_of h rfl
theorem md_r25 (h : zobj w 39 9 = some (mkM i)) : getR w 39 9 25 = some 53 := getR_of h rfl
theorem md_r26 (h : zobj w 39 9 = some (mkM i)) : getR w 39 9 26 = some 54 := getR_of h rfl
theorem md_r27 (h : zobj w 39 9 = some (mkM i)) : getR w 39 9 27 = some 55 := getR_of h rfl
theorem md_r28 (h : zobj w 39 9 = some (mkM i)) : getR w 39 9 28 = some 56 := getR_of h rfl
theorem md_r29 (h : zobj w 39 9 = some (mkM i)) : getR w 39 9 29 = some 57 := getR_of h rfl
theorem md_r30 (h : zobj w 39 9 = some (mkM i)) : getR w 39 9 30 = some 58 := getR_of h rfl
theorem md_r32 (h : zobj w 39 9 = some (mkM i)) : getR w 39 9 32 = some 59 := getR_of h rfl
end Md
theorem MR_new {w : zW} {B B' L : List Int32} {wd wd' : Int32} {i j : Nat → Int32} (h : MR w B L wd i) (hB : ∀ xs : List Int32, xs.take B.length = B → xs.take B'.length = B') (h1 : j 1 = nI B'.length) (h3 : j 3 = nI L.length) (h5 : j 5 = wd') : MR (wM w j) B' L wd' j := by
  obtain ⟨a1, a2, a3, a4, ⟨xs, a5, a6, a7⟩, ⟨ys, a8, a9⟩, a10⟩ := h
  have f := wM_Fr (w := w) (j := j)
  exact ⟨wM_obj a1, h1, h3, h5, ⟨xs, (f.ints (by decide)).trans a5, a6, hB xs a7⟩, ⟨ys, (f.ints (by decide)).trans a8, a9⟩, MS_at (fun q k1 k2 => f.2 q (by simp; omega)) a10⟩
theorem MR_i {w : zW} {B L : List Int32} {wd : Int32} {i j : Nat → Int32} (h : MR w B L wd i) (h1 : j 1 = i 1) (h3 : j 3 = i 3) (h5 : j 5 = i 5) : MR (wM w j) B L wd j :=
  MR_new h (fun _ q => q) (h1.trans h.2.1) (h3.trans h.2.2.1) (h5.trans h.2.2.2.1)
/-- the class's side out of a step on its rows -/
theorem CR_buf {w w' : zW} {B B' L : List Int32} {wd : Int32} (h : CR w B L wd) (f : Fr [1, 2] w w') {ov : Int32} (h1 : rw_ w' 1 2 200 B' ov) : CR w' B' L wd := by
  obtain ⟨a1, -, ⟨o3, a3⟩, a4, a5⟩ := h
  exact ⟨(f.obj (by decide)).trans a1, ⟨ov, h1⟩, ⟨o3, f.rw (by decide) (by decide) a3⟩, (f.obj (by decide)).trans a4, SC_at (fun j k1 k2 _ => f.2 j (by simp; omega)) a5⟩
theorem CR_file {w w' : zW} {B L L' : List Int32} {wd : Int32} (h : CR w B L wd) (f : Fr [3, 4] w w') {ov : Int32} (h1 : rw_ w' 3 4 1600 L' ov) : CR w' B L' wd := by
  obtain ⟨a1, ⟨o2, a2⟩, -, a4, a5⟩ := h
  exact ⟨(f.obj (by decide)).trans a1, ⟨o2, f.rw (by decide) (by decide) a2⟩, ⟨ov, h1⟩, (f.obj (by decide)).trans a4, SC_at (fun j k1 k2 _ => f.2 j (by simp; omega)) a5⟩
theorem zip_r {w : zW} (h : zobj w 0 8 = some zipF) : getR w 0 8 0 = some 1 ∧ getR w 0 8 1 = some 3 ∧ getR w 0 8 2 = some 5 ∧ getR w 0 8 3 = some 7 ∧ getR w 0 8 4 = some 9 ∧ getR w 0 8 5 = some 10 ∧ getR w 0 8 6 = some 24 ∧ getR w 0 8 7 = some 35 ∧ getR w 0 8 8 = some 38 :=
  ⟨getR_of h rfl, getR_of h rfl, getR_of h rfl, getR_of h rfl, getR_of h rfl, getR_of h rfl, getR_of h rfl, getR_of h rfl, getR_of h rfl⟩
/-! clear, held, length, wide -/
theorem l1123 {F : Nat} {sc : List Int32} {K : Nat → Nat → Nat → Int32 → zW → Option (Int32 × zW)} {k : Nat} {w : zW} : b_Law_law_1123 F sc K 0 39 60 (nI k) w = K 0 39 60 (nI (k + 4)) w := by
  unfold b_Law_law_1123
  rw [show (4 : Int32) = nI 4 from rfl, nI_add]
theorem len61 {w w' : zW} {S : List Nat} (f : Fr S w w') (h : 61 ≤ w.length) : 61 ≤ w'.length := by rw [f.1]; exact h
theorem step_136 : StepAt b_Law_law_136 := by
  intro F sc K k w hF hl hk hI
  obtain ⟨B, L, wd, i, hC, hM, hw, hB, hL, bB, bL, ⟨x, hx⟩, h61⟩ := hI
  obtain ⟨c1, ⟨o1, c2⟩, c3, c4, c5⟩ := id hC
  obtain ⟨w1, e1, r1, f1⟩ := rw_empty F c2
  have hM1 := MR_at (fun j h1 h2 => f1.2 j (by simp; omega)) hM
  refine ⟨wM w1 (upd (upd i 0 0) 1 0), ⟨[], L, wd, _, CR_at (fun j hj => wM_Fr.2 j (by simp; omega)) (CR_buf hC f1 r1), MR_new hM1 (fun _ _ => rfl) rfl hM.2.2.1 hM.2.2.2.1, hw, by simp, hL, fun _ h => absurd h List.not_mem_nil, bL, ⟨x, ?_⟩, ?_⟩, ?_⟩
  · rw [wM_Fr.longs (by decide), f1.longs (by decide)]; exact hx
  · exact len61 wM_Fr (len61 f1 h61)
  · unfold b_Law_law_136
    simp only [c1, Option.bind_some, f_Zip_clear, b_Zip_clear_0, (zip_r c1).1, rw_size c2, rw_obj c2, e1, f_Model_clear, b_Model_clear_0, hM1.1, md_p0 hM1.1, md_g1 (wM_obj hM1.1), md_p1 (wM_obj hM1.1), wM_wM]
    rw [show upd i 0 0 1 = nI B.length from hM.2.1, if_pos rfl, l1123]
theorem step_317 : StepAt b_Law_law_317 := by
  intro F sc K k w hF hl hk hI
  obtain ⟨B, L, wd, i, hC, hM, hw, hB, hL, bB, bL, ⟨x, hx⟩, h61⟩ := hI
  obtain ⟨c1, ⟨o1, c2⟩, c3, c4, c5⟩ := id hC
  refine ⟨wM w (upd i 0 0), ⟨B, L, wd, _, CR_at (fun j hj => wM_Fr.2 j (by simp; omega)) hC, MR_i hM rfl rfl rfl, hw, hB, hL, bB, bL, ⟨x, ?_⟩, len61 wM_Fr h61⟩, ?_⟩
  · rw [wM_Fr.longs (by decide)]; exact hx
  · unfold b_Law_law_317
    simp only [c1, Option.bind_some, f_Zip_held, b_Zip_held_0, (zip_r c1).1, rw_size c2, f_Model_held, b_Model_held_0, hM.1, md_p0 hM.1, md_g1 (wM_obj hM.1)]
    rw [show upd i 0 0 1 = nI B.length from hM.2.1, if_pos rfl, l1123]
theorem step_870 : StepAt b_Law_law_870 := by
  intro F sc K k w hF hl hk hI
  obtain ⟨B, L, wd, i, hC, hM, hw, hB, hL, bB, bL, ⟨x, hx⟩, h61⟩ := hI
  obtain ⟨c1, c2, ⟨o3, c3⟩, c4, c5⟩ := id hC
  refine ⟨wM w (upd i 0 0), ⟨B, L, wd, _, CR_at (fun j hj => wM_Fr.2 j (by simp; omega)) hC, MR_i hM rfl rfl rfl, hw, hB, hL, bB, bL, ⟨x, ?_⟩, len61 wM_Fr h61⟩, ?_⟩
  · rw [wM_Fr.longs (by decide)]; exact hx
  · unfold b_Law_law_870
    simp only [c1, Option.bind_some, f_Zip_length, b_Zip_length_0, (zip_r c1).2.1, rw_size c3, f_Model_length, b_Model_length_0, hM.1, md_p0 hM.1, md_g3 (wM_obj hM.1)]
    rw [show upd i 0 0 3 = nI L.length from hM.2.2.1, if_pos rfl, l1123]
