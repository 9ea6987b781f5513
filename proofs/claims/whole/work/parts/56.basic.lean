/-! Calls that may be refused: the two sides' frames; at, byteAt, cut, poke; crc, wide. -/
theorem i64_le {x y : Int32} : x.toInt64 ≤ y.toInt64 ↔ x ≤ y := by
  rw [Int64.le_iff_toInt_le, Int32.le_iff_toInt_le, Int32.toInt_toInt64, Int32.toInt_toInt64]
theorem lg_neg {u a : Int64} : lg_cmp u a < 0 ↔ u < a := by
  unfold lg_cmp
  by_cases h1 : u > a
  · rw [if_pos h1]
    exact ⟨fun q => absurd q (by decide), fun q => (Int64.lt_irrefl (Int64.lt_trans q h1)).elim⟩
  · rw [if_neg h1]
    by_cases h2 : u = a
    · rw [if_pos h2]
      exact ⟨fun q => absurd q (by decide), fun q => (Int64.lt_irrefl (h2 ▸ q : a < a)).elim⟩
    · rw [if_neg h2]
      exact ⟨fun _ => Int64.lt_of_le_of_ne (Int64.not_lt.mp h1) h2, fun _ => by decide⟩
theorem lg_pos {u a : Int64} : 0 < lg_cmp u a ↔ a < u := by
  unfold lg_cmp
  by_cases h1 : u > a
  · rw [if_pos h1]
    exact ⟨fun _ => h1, fun _ => by decide⟩
  · rw [if_neg h1]
    by_cases h2 : u = a
    · rw [if_pos h2]
      exact ⟨fun q => absurd q (by decide), fun q => absurd q h1⟩
    · rw [if_neg h2]
      exact ⟨fun q => absurd q (by decide), fun q => absurd q h1⟩
theorem wi64 (F : Nat) (w : zW) (u a b : Int64) : f_Model_within F u a b w = some (if a ≤ u ∧ u ≤ b then 1 else 0, w) := by
  simp only [f_Model_within, b_Model_within_0, b_Model_within_17]
  by_cases h1 : a ≤ u
  · rw [if_neg (fun q => Int64.not_lt.mpr h1 (lg_neg.mp q))]
    by_cases h2 : u ≤ b
    · rw [if_neg (fun q => Int64.not_lt.mpr h2 (lg_pos.mp q)), if_pos ⟨h1, h2⟩]
    · rw [if_pos (lg_pos.mpr (Int64.not_le.mp h2)), if_neg (fun q => h2 q.2)]
  · rw [if_pos (lg_neg.mpr (Int64.not_le.mp h1)), if_neg (fun q => h1 q.1)]
theorem wi (F : Nat) (w : zW) (x lo hi : Int32) : f_Model_within F x.toInt64 lo.toInt64 hi.toInt64 w = some (if lo ≤ x ∧ x ≤ hi then 1 else 0, w) := by
  rw [wi64]
  simp only [i64_le]
theorem lt_pred {x : Int32} {n : Nat} (h : n < 2 ^ 30) : x ≤ nI n - 1 ↔ x < nI n := by
  rw [Int32.le_iff_toInt_le, Int32.lt_iff_toInt_lt, show (1 : Int32) = nI 1 from rfl, pk_sub_toInt h (by decide), nI_toInt (by omega)]
  omega
theorem in_cases (x : Int32) {n : Nat} (h : n < 2 ^ 30) : (∃ j, j < n ∧ x = nI j) ∨ ¬ (0 ≤ x ∧ x < nI n) := by
  by_cases hx : 0 ≤ x ∧ x < nI n
  · left
    obtain ⟨j, hj, rfl⟩ := nI_of (Int32.not_lt.mpr hx.1)
    exact ⟨j, (nI_ltI hj (by omega)).mp hx.2, rfl⟩
  · exact Or.inr hx
/-- the class's side of a call: code k, answer v if k is 0 -/
def Cst (w : zW) (f : Option (Int32 × zW)) (k v : Int32) (B L : List Int32) (wd : Int32) : Prop := ∃ w1, f = some (k, w1) ∧ CR w1 B L wd ∧ (∀ j, 39 ≤ j → j < 60 → w1[j]? = w[j]?) ∧ (∃ x, zlongs w1 60 = some [x] ∧ (k = 0 → x = v.toInt64)) ∧ 61 ≤ w1.length
/-- the reference's side -/
def Mst (w : zW) (f : Option (Int32 × zW)) (k v : Int32) (B L : List Int32) (wd : Int32) : Prop := ∃ w2 b i, f = some (b, w2) ∧ MR w2 B L wd i ∧ i 0 = k ∧ (k = 0 → b = v) ∧ (∀ j, j < 39 ∨ j = 60 → w2[j]? = w[j]?) ∧ w2.length = w.length
theorem cst_ret {w w1 : zW} {B L : List Int32} {wd x : Int32} {y : Int64} (hC : CR w1 B L wd) (hf : ∀ j, 39 ≤ j → j < 61 → w1[j]? = w[j]?) (hx : zlongs w 60 = some [y]) (h61 : 61 ≤ w1.length) (v : Int32) : Cst w ((lset w1 60 0 v.toInt64).bind fun w8 => some (0, w8)) 0 v B L wd := by
  have hx1 : zlongs w1 60 = some [y] := (at_longs (hf 60 (by decide) (by decide))).trans hx
  have e : lset w1 60 0 v.toInt64 = some (w1.set 60 (.inr (.inl [v.toInt64]))) := by
    simp [lset, hx1]
  refine ⟨_, by rw [e]; rfl, CR_at (fun j hj => List.getElem?_set_ne (by omega)) hC, fun j h1 h2 => ?_, ⟨v.toInt64, zlongs_eq (by omega), fun _ => rfl⟩, by rw [List.length_set]; exact h61⟩
  rw [List.getElem?_set_ne (by omega)]
  exact hf j h1 (by omega)
theorem exc_at {w : zW} {ci : Nat} : zobj (w ++ [.inr (.inr (.inr (ci, [])))]) w.length ci = some [] := by
  unfold zobj
  rw [List.getElem?_append_right (Nat.le_refl _), Nat.sub_self]
  simp
theorem exc_no {w : zW} {ci cj : Nat} (h : ci ≠ cj) : ¬ zobj (w ++ [.inr (.inr (.inr (ci, [])))]) w.length cj = some [] := by
  unfold zobj
  rw [List.getElem?_append_right (Nat.le_refl _), Nat.sub_self]
  simp [h]
theorem cst_thr {w w1 : zW} {B L : List Int32} {wd : Int32} {y : Int64} {c : zC} (hC : CR w1 B L wd) (hf : ∀ j, 39 ≤ j → j < 61 → w1[j]? = w[j]?) (hx : zlongs w 60 = some [y]) (h61 : 61 ≤ w1.length) {k v : Int32} (hk : k ≠ 0) : Cst w (some (k, w1 ++ [c])) k v B L wd := by
  have hx1 : zlongs w1 60 = some [y] := (at_longs (hf 60 (by decide) (by decide))).trans hx
  refine ⟨_, rfl, CR_at (fun j hj => List.getElem?_append_left (by omega)) hC, fun j h1 h2 => ?_, ⟨y, zlongs_app hx1, fun q => absurd q hk⟩, by rw [List.length_append]; omega⟩
  rw [List.getElem?_append_left (by omega)]
  exact hf j h1 (by omega)
theorem lg_self (x : Int64) : lg_cmp x x = 0 := by
  unfold lg_cmp
  rw [if_neg (fun q => Int64.lt_irrefl q), if_pos rfl]
theorem thrown_ {w : zW} {i : Nat → Int32} (F : Nat) (h : zobj w 39 9 = some (mkM i)) : f_Model_thrown F 39 w = some (i 0, w) := by
  simp only [f_Model_thrown, b_Model_thrown_0, md_g0 h, Option.bind_some]
/-- both sides together -/
theorem II_of {w w1 w2 : zW} {k v b : Int32} {B L : List Int32} {wd : Int32} {i : Nat → Int32} {x : Int64} (hC : CR w1 B L wd) (hx : zlongs w1 60 = some [x]) (h61 : 61 ≤ w1.length) (hM : MR w2 B L wd i) (hf : ∀ j, j < 39 ∨ j = 60 → w2[j]? = w1[j]?) (hl : w2.length = w1.length) (hw : wd = 0 ∨ wd = 1) (hB : B.length ≤ 200) (hL : L.length ≤ 1600) (bB : ∀ b ∈ B, isB b) (bL : ∀ b ∈ L, isB b) : II w2 :=
  ⟨B, L, wd, i, CR_at (fun j hj => hf j (Or.inl hj)) hC, hM, hw, hB, hL, bB, bL, ⟨x, (at_longs (hf 60 (Or.inr rfl))).trans hx⟩, by rw [hl]; exact h61⟩
theorem tail_out {w2 : zW} {i : Nat → Int32} {k b : Int32} {x : Int64} (F : Nat) (h : zobj w2 39 9 = some (mkM i)) (hk : i 0 = k) (hx : zlongs w2 60 = some [x]) (hv : k = 0 → x = b.toInt64) (A Z : zW → Option (Int32 × zW)) :
    ((f_Model_thrown F 39 w2).bind fun r => if r.1 = k then (if k = 0 then ((lget r.2 60 (0 : Int32)).bind fun y => if (lg_cmp y b.toInt64) = 0 then A r.2 else Z r.2) else A r.2) else Z r.2) = A w2 := by
  rw [thrown_ F h, Option.bind_some]
  simp only [hk, if_true]
  by_cases h0 : k = 0
  · rw [if_pos h0]
    have e : lget w2 60 0 = some x := by simp [lget, hx]
    rw [e, Option.bind_some, hv h0, lg_self, if_pos rfl]
  · rw [if_neg h0]
theorem tail_no {w2 : zW} {i : Nat → Int32} {k : Int32} (F : Nat) (h : zobj w2 39 9 = some (mkM i)) (hk : i 0 = k) (A Z : zW → Option (Int32 × zW)) :
    ((f_Model_thrown F 39 w2).bind fun r => if r.1 = k then A r.2 else Z r.2) = A w2 := by
  rw [thrown_ F h, Option.bind_some]
  simp only [hk, if_true]
theorem Cst.mono {w : zW} {f : Option (Int32 × zW)} {k v : Int32} {B L : List Int32} {wd : Int32} (h : Cst w f k v B L wd) {g : Option (Int32 × zW)} (e : g = f) : Cst w g k v B L wd := by rw [e]; exact h
/-! at -/
theorem c_at {w : zW} {B L : List Int32} {wd : Int32} {y : Int64} (F : Nat) (x : Int32) (hC : CR w B L wd) (hx : zlongs w 60 = some [y]) (h61 : 61 ≤ w.length) (hB : B.length ≤ 200) : (∀ j, j < B.length → x = nI j → ∀ hj : j < B.length, Cst w (f_Law_at F 0 x 60 w) 0 B[j] B L wd) ∧ (¬ (0 ≤ x ∧ x < nI B.length) → Cst w (f_Law_at F 0 x 60 w) 1 0 B L wd) := by
  obtain ⟨c1, ⟨o1, c2⟩, c3, c4, c5⟩ := id hC
  constructor
  · rintro j hj rfl -
    refine (cst_ret (x := 0) hC (fun _ _ _ => rfl) hx h61 B[j]).mono ?_
    simp only [f_Law_at, b_Law_at_0, c1, Option.bind_some, f_Zip_at, b_Zip_at_0, (zip_r c1).1, rw_obj c2, rw_hasY F c2 hj, rw_get F c2 hj]
    rfl
  · intro hn
    refine (cst_thr (c := .inr (.inr (.inr (12, [])))) hC (fun _ _ _ => rfl) hx h61 (by decide)).mono ?_
    simp only [f_Law_at, b_Law_at_0, c1, Option.bind_some, f_Zip_at, b_Zip_at_0, (zip_r c1).1, rw_obj c2, rw_hasN F c2 hn, if_true, exc_at]

theorem m_at {w : zW} {B L : List Int32} {wd : Int32} {i : Nat → Int32} (F : Nat) (x : Int32) (hM : MR w B L wd i) (hB : B.length ≤ 200) : (∀ j, x = nI j → ∀ hj : j < B.length, Mst w (f_Model_at F 39 x w) 0 B[j] B L wd) ∧ (¬ (0 ≤ x ∧ x < nI B.length) → Mst w (f_Model_at F 39 x w) 1 0 B L wd) := by
  have hw : f_Model_within F x.toInt64 (0 : Int64) (nI B.length - 1).toInt64 w = some (if 0 ≤ x ∧ x < nI B.length then 1 else 0, w) := by
    rw [show (0 : Int64) = (0 : Int32).toInt64 from rfl, wi]
    simp only [lt_pred (x := x) (n := B.length) (by omega)]
  constructor
  · rintro j rfl hj
    rw [if_pos ⟨nI_pos' (by omega), nI_lt hj (by omega)⟩] at hw
    refine ⟨wM w (upd i 0 0), B[j], _, ?_, MR_i hM rfl rfl rfl, rfl, fun _ => rfl, fun q hq => wM_Fr.2 q (by simp; omega), wM_Fr.1⟩
    simp only [f_Model_at, b_Model_at_0, md_g1 hM.1, Option.bind_some, hM.2.1, hw]
    rw [if_neg (by decide)]
    simp only [b_Model_at_22, md_p0 hM.1, Option.bind_some, md_g0 (wM_obj hM.1), md_r2 (wM_obj hM.1)]
    rw [show upd i 0 0 0 = 0 from rfl, if_pos (by decide)]
    obtain ⟨-, -, -, -, ⟨xs, a5, a6, a7⟩, -⟩ := hM
    have ha : zints (wM w (upd i 0 0)) 40 = some xs := (wM_Fr.ints (by decide)).trans a5
    have hg : xs[j]? = some B[j] := by
      have : (xs.take B.length)[j]? = some B[j] := by rw [a7]; exact List.getElem?_eq_getElem hj
      rwa [List.getElem?_take_of_lt hj] at this
    rw [aget_of ha (by omega) hg, Option.bind_some]
  · intro hn
    rw [if_neg hn] at hw
    refine ⟨wM w (upd i 0 1), 0, _, ?_, MR_i hM rfl rfl rfl, rfl, fun q => absurd q (by decide), fun q hq => wM_Fr.2 q (by simp; omega), wM_Fr.1⟩
    simp only [f_Model_at, b_Model_at_0, md_g1 hM.1, Option.bind_some, hM.2.1, hw, if_true]
    simp only [b_Model_at_22, md_p0 hM.1, Option.bind_some, md_g0 (wM_obj hM.1)]
    rw [show upd i 0 1 0 = 1 from rfl, if_neg (by decide)]
theorem step_330 : StepAt b_Law_law_330 := by
  intro F sc K k w hF hl hk hI
  obtain ⟨B, L, wd, i, hC, hM, hw, hB, hL, bB, bL, ⟨y, hx⟩, h61⟩ := hI
  have key : ∃ kk v, Cst w (f_Law_at F 0 sc[k + 1] 60 w) kk v B L wd ∧ ∀ w1, (∀ j, 39 ≤ j → j < 60 → w1[j]? = w[j]?) → Mst w1 (f_Model_at F 39 sc[k + 1] w1) kk v B L wd := by
    rcases in_cases sc[k + 1] (n := B.length) (by omega) with ⟨j, hj, e⟩ | hn
    · exact ⟨0, B[j], (c_at F _ hC hx h61 hB).1 j hj e hj, fun w1 h1 => (m_at F _ (MR_at h1 hM) hB).1 j e hj⟩
    · exact ⟨1, 0, (c_at F _ hC hx h61 hB).2 hn, fun w1 h1 => (m_at F _ (MR_at h1 hM) hB).2 hn⟩
  obtain ⟨kk, v, ⟨w1, e1, C1, f1, ⟨x1, hx1, hv1⟩, l1⟩, hm⟩ := key
  obtain ⟨w2, b, i2, e2, M2, k2, v2, f2, l2⟩ := hm w1 f1
  refine ⟨w2, II_of (w := w) (k := kk) (v := v) (b := b) C1 hx1 l1 M2 f2 l2 hw hB hL bB bL, ?_⟩
  unfold b_Law_law_330
  rw [show (1 : Int32) = nI 1 from rfl, nI_add, sget_of hl (by omega), Option.bind_some, e1, Option.bind_some, Option.bind_some]
  have ho : zobj w1 39 9 = some (mkM i) := (at_obj (f1 39 (by decide) (by decide))).trans hM.1
  simp only [ho, Option.bind_some, e2, M2.1]
  refine (tail_out F M2.1 k2 ((at_longs (f2 60 (Or.inr rfl))).trans hx1) (fun q => by rw [hv1 q, v2 q]) (fun u => b_Law_law_383 F sc K 0 39 60 (nI k) u) (fun u => some ((0 : Int32), u))).trans ?_
  exact l1123
/-! byteAt -/
theorem c_byteAt {w : zW} {B L : List Int32} {wd : Int32} {y : Int64} (F : Nat) (x : Int32) (hC : CR w B L wd) (hx : zlongs w 60 = some [y]) (h61 : 61 ≤ w.length) (hL : L.length ≤ 1600) : (∀ j, j < L.length → x = nI j → ∀ hj : j < L.length, Cst w (f_Law_byteAt F 0 x 60 w) 0 L[j] B L wd) ∧ (¬ (0 ≤ x ∧ x < nI L.length) → Cst w (f_Law_byteAt F 0 x 60 w) 1 0 B L wd) := by
  obtain ⟨c1, -, ⟨o1, c2⟩, c4, c5⟩ := id hC
  constructor
  · rintro j hj rfl -
    refine (cst_ret (x := 0) hC (fun _ _ _ => rfl) hx h61 L[j]).mono ?_
    simp only [f_Law_byteAt, b_Law_byteAt_0, c1, Option.bind_some, f_Zip_byteAt, b_Zip_byteAt_0, (zip_r c1).2.1, rw_obj c2, rw_hasY F c2 hj, rw_get F c2 hj]
    rfl
  · intro hn
    refine (cst_thr (c := .inr (.inr (.inr (12, [])))) hC (fun _ _ _ => rfl) hx h61 (by decide)).mono ?_
    simp only [f_Law_byteAt, b_Law_byteAt_0, c1, Option.bind_some, f_Zip_byteAt, b_Zip_byteAt_0, (zip_r c1).2.1, rw_obj c2, rw_hasN F c2 hn, if_true, exc_at]

theorem m_byteAt {w : zW} {B L : List Int32} {wd : Int32} {i : Nat → Int32} (F : Nat) (x : Int32) (hM : MR w B L wd i) (hL : L.length ≤ 1600) : (∀ j, x = nI j → ∀ hj : j < L.length, Mst w (f_Model_byteAt F 39 x w) 0 L[j] B L wd) ∧ (¬ (0 ≤ x ∧ x < nI L.length) → Mst w (f_Model_byteAt F 39 x w) 1 0 B L wd) := by
  have hw : f_Model_within F x.toInt64 (0 : Int64) (nI L.length - 1).toInt64 w = some (if 0 ≤ x ∧ x < nI L.length then 1 else 0, w) := by
    rw [show (0 : Int64) = (0 : Int32).toInt64 from rfl, wi]
    simp only [lt_pred (x := x) (n := L.length) (by omega)]
  constructor
  · rintro j rfl hj
    rw [if_pos ⟨nI_pos' (by omega), nI_lt hj (by omega)⟩] at hw
    refine ⟨wM w (upd i 0 0), L[j], _, ?_, MR_i hM rfl rfl rfl, rfl, fun _ => rfl, fun q hq => wM_Fr.2 q (by simp; omega), wM_Fr.1⟩
    simp only [f_Model_byteAt, b_Model_byteAt_0, md_g3 hM.1, Option.bind_some, hM.2.2.1, hw]
    rw [if_neg (by decide)]
    simp only [b_Model_byteAt_22, md_p0 hM.1, Option.bind_some, md_g0 (wM_obj hM.1), md_r4 (wM_obj hM.1)]
    rw [show upd i 0 0 0 = 0 from rfl, if_pos (by decide)]
    obtain ⟨-, -, -, -, -, ⟨xs, a5, a6, a7⟩, -⟩ := hM
    have ha : zints (wM w (upd i 0 0)) 41 = some xs := (wM_Fr.ints (by decide)).trans a5
    have hg : xs[j]? = some L[j] := by
      have : (xs.take L.length)[j]? = some L[j] := by rw [a7]; exact List.getElem?_eq_getElem hj
      rwa [List.getElem?_take_of_lt hj] at this
    rw [aget_of ha (by omega) hg, Option.bind_some]
  · intro hn
    rw [if_neg hn] at hw
    refine ⟨wM w (upd i 0 1), 0, _, ?_, MR_i hM rfl rfl rfl, rfl, fun q => absurd q (by decide), fun q hq => wM_Fr.2 q (by simp; omega), wM_Fr.1⟩
    simp only [f_Model_byteAt, b_Model_byteAt_0, md_g3 hM.1, Option.bind_some, hM.2.2.1, hw, if_true]
    simp only [b_Model_byteAt_22, md_p0 hM.1, Option.bind_some, md_g0 (wM_obj hM.1)]
    rw [show upd i 0 1 0 = 1 from rfl, if_neg (by decide)]
theorem step_883 : StepAt b_Law_law_883 := by
  intro F sc K k w hF hl hk hI
  obtain ⟨B, L, wd, i, hC, hM, hw, hB, hL, bB, bL, ⟨y, hx⟩, h61⟩ := hI
  have key : ∃ kk v, Cst w (f_Law_byteAt F 0 sc[k + 1] 60 w) kk v B L wd ∧ ∀ w1, (∀ j, 39 ≤ j → j < 60 → w1[j]? = w[j]?) → Mst w1 (f_Model_byteAt F 39 sc[k + 1] w1) kk v B L wd := by
    rcases in_cases sc[k + 1] (n := L.length) (by omega) with ⟨j, hj, e⟩ | hn
    · exact ⟨0, L[j], (c_byteAt F _ hC hx h61 hL).1 j hj e hj, fun w1 h1 => (m_byteAt F _ (MR_at h1 hM) hL).1 j e hj⟩
    · exact ⟨1, 0, (c_byteAt F _ hC hx h61 hL).2 hn, fun w1 h1 => (m_byteAt F _ (MR_at h1 hM) hL).2 hn⟩
  obtain ⟨kk, v, ⟨w1, e1, C1, f1, ⟨x1, hx1, hv1⟩, l1⟩, hm⟩ := key
  obtain ⟨w2, b, i2, e2, M2, k2, v2, f2, l2⟩ := hm w1 f1
  refine ⟨w2, II_of (w := w) (k := kk) (v := v) (b := b) C1 hx1 l1 M2 f2 l2 hw hB hL bB bL, ?_⟩
  unfold b_Law_law_883
  rw [show (1 : Int32) = nI 1 from rfl, nI_add, sget_of hl (by omega), Option.bind_some, e1, Option.bind_some, Option.bind_some]
  have ho : zobj w1 39 9 = some (mkM i) := (at_obj (f1 39 (by decide) (by decide))).trans hM.1
  simp only [ho, Option.bind_some, e2, M2.1]
  refine (tail_out F M2.1 k2 ((at_longs (f2 60 (Or.inr rfl))).trans hx1) (fun q => by rw [hv1 q, v2 q]) (fun u => b_Law_law_936 F sc K 0 39 60 (nI k) u) (fun u => some ((0 : Int32), u))).trans ?_
  exact l1123
