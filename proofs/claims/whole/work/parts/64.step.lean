/-! One call of the law: the class's side, the reference's side, and both together. -/
def CO (J : yJ) (A : yA) (f : Option (Int32 × zW)) (k v : Int32) (B L : List Int32) (wd : Int32) : Prop := ∃ J' A' s x Q, f = some (k, YW J' A' s (.inr (.inl [x]) :: Q)) ∧ Sh A' ∧ CI J' A' B L wd ∧ J' 39 = J 39 ∧ (∀ j, 40 ≤ j → A' j = A j) ∧ (k = 0 → x = v.toInt64)
def CU (J : yJ) (A : yA) (f : Option (Int32 × zW)) (k : Int32) (B L : List Int32) (wd : Int32) : Prop := ∃ J' A' s x Q, f = some (k, YW J' A' s (.inr (.inl [x]) :: Q)) ∧ Sh A' ∧ CI J' A' B L wd ∧ J' 39 = J 39 ∧ (∀ j, 40 ≤ j → A' j = A j)
theorem CO.cu {J : yJ} {A : yA} {f : Option (Int32 × zW)} {k v : Int32} {B L : List Int32} {wd : Int32} (h : CO J A f k v B L wd) : CU J A f k B L wd := by
  obtain ⟨J', A', s, x, Q, a, b, c, d, e, -⟩ := h
  exact ⟨J', A', s, x, Q, a, b, c, d, e⟩
def MO (J : yJ) (A : yA) (s : Nat) (Q : zW) (f : Option (Int32 × zW)) (k v : Int32) (B L : List Int32) (wd : Int32) : Prop := ∃ J' A' b, f = some (b, YW J' A' s Q) ∧ Sh A' ∧ MI J' A' B L wd ∧ J' 39 0 = k ∧ (k = 0 → b = v) ∧ (∀ o, o < 39 → J' o = J o) ∧ ∀ j, j < 40 → A' j = A j
def MU (J : yJ) (A : yA) (s : Nat) (Q : zW) (f : Option (Unit × zW)) (k : Int32) (B L : List Int32) (wd : Int32) : Prop := ∃ J' A', f = some ((), YW J' A' s Q) ∧ Sh A' ∧ MI J' A' B L wd ∧ J' 39 0 = k ∧ (∀ o, o < 39 → J' o = J o) ∧ ∀ j, j < 40 → A' j = A j
section St
variable {J J' : yJ} {A A' : yA} {s s' : Nat} {x : Int64} {Q Q' : zW} {B L B' L' : List Int32} {wd wd' k v : Int32} {c : zC} {F : Nat}
theorem MI_eq (h : MI J A B L wd) (h1 : J' 39 = J 39) (h2 : ∀ j, 40 ≤ j → A' j = A j) : MI J' A' B L wd := by
  obtain ⟨a1, a2, a3, a4, a5, a6⟩ := h
  refine ⟨?_, ?_, ?_, ?_, ?_, ?_⟩
  · rw [h1]; exact a1
  · rw [h2 40 (by decide)]; exact a2
  · rw [h1]; exact a3
  · rw [h2 41 (by decide)]; exact a4
  · rw [h1]; exact a5
  · rw [h2 47 (by decide)]; exact a6
theorem CI_eq (h : CI J A B L wd) (h1 : ∀ o, o < 39 → J' o = J o) (h2 : ∀ j, j < 40 → A' j = A j) : CI J' A' B L wd := by
  obtain ⟨a1, a2, a3, a4, a5⟩ := h
  refine ⟨?_, ?_, ?_, ?_, ?_⟩
  · rw [h1 1 (by decide)]; exact a1
  · rw [h2 2 (by decide)]; exact a2
  · rw [h1 3 (by decide)]; exact a3
  · rw [h2 4 (by decide)]; exact a4
  · rw [h1 35 (by decide)]; exact a5
theorem lset_ (y : Int64) : lset (YW J A s (.inr (.inl [x]) :: Q)) 60 0 y = some (YW J A s (.inr (.inl [y]) :: Q)) := rfl
theorem lget_ : lget (YW J A s (.inr (.inl [x]) :: Q)) 60 0 = some x := rfl
theorem CO_thr (hS : Sh A') (hC : CI J' A' B L wd) (hJ : J' 39 = J 39) (hA : ∀ j, 40 ≤ j → A' j = A j) (hk : k ≠ 0) : CO J A (some (k, YW J' A' s' (.inr (.inl [x]) :: Q') ++ [c])) k v B L wd :=
  ⟨J', A', s', x, Q' ++ [c], rfl, hS, hC, hJ, hA, fun q => absurd q hk⟩
theorem CO_ret (hS : Sh A') (hC : CI J' A' B L wd) (hJ : J' 39 = J 39) (hA : ∀ j, 40 ≤ j → A' j = A j) : CO J A ((lset (YW J' A' s' (.inr (.inl [x]) :: Q')) 60 0 v.toInt64).bind fun w8 => some ((0 : Int32), w8)) 0 v B L wd :=
  ⟨J', A', s', v.toInt64, Q', rfl, hS, hC, hJ, hA, fun _ => rfl⟩
theorem CO.mono {f g : Option (Int32 × zW)} (h : CO J A f k v B L wd) (e : g = f) : CO J A g k v B L wd := by rw [e]; exact h
theorem thrownW : f_Model_thrown F 39 (YW J A s Q) = some (J 39 0, YW J A s Q) := by
  unfold f_Model_thrown b_Model_thrown_0
  simp only [wg_M, Option.bind_some]
theorem call_step {sc : List Int32} {K : Nat → Nat → Nat → Int32 → zW → Option (Int32 × zW)} {i : Nat} {w : zW} (c m : zW → Option (Int32 × zW)) (hI : II w)
    (h : ∀ J A s x Q B L wd, Sh A → CI J A B L wd → MI J A B L wd → GI B L wd → ∃ kk v B' L' wd', GI B' L' wd' ∧ CO J A (c (YW J A s (.inr (.inl [x]) :: Q))) kk v B' L' wd' ∧ ∀ J1 A1 s1 Q1, Sh A1 → MI J1 A1 B L wd → MO J1 A1 s1 Q1 (m (YW J1 A1 s1 Q1)) kk v B' L' wd') :
    ∃ w', II w' ∧ ((c w).bind fun r => (zobj r.2 39 9).bind fun _ => (m r.2).bind fun r2 => (zobj r2.2 39 9).bind fun _ => (f_Model_thrown F 39 r2.2).bind fun r3 => if r3.1 = r.1 then (if r.1 = 0 then ((lget r3.2 60 (0 : Int32)).bind fun y => if (lg_cmp y r2.1.toInt64) = 0 then (b_Law_law_1123 F sc K 0 39 60 (nI i) r3.2) else (some ((0 : Int32), r3.2))) else (b_Law_law_1123 F sc K 0 39 60 (nI i) r3.2)) else (some ((0 : Int32), r3.2))) = K 0 39 60 (nI (i + 4)) w' := by
  obtain ⟨J, A, s, x, Q, B, L, wd, rfl, hS, hC, hM, hG⟩ := II_YW hI
  obtain ⟨kk, v, B', L', wd', hG', ⟨J1, A1, s1, x1, Q1, e1, S1, C1, j1, a1, v1⟩, hm⟩ := h J A s x Q B L wd hS hC hM hG
  obtain ⟨J2, A2, b, e2, S2, M2, k2, v2, j2, a2⟩ := hm J1 A1 s1 (.inr (.inl [x1]) :: Q1) S1 (MI_eq hM j1 a1)
  refine ⟨YW J2 A2 s1 (.inr (.inl [x1]) :: Q1), YW_II S2 (CI_eq C1 j2 a2) M2 hG', ?_⟩
  rw [e1, Option.bind_some]
  simp only [wo_M, Option.bind_some, e2, thrownW, k2, lget_]
  rw [if_pos trivial]
  by_cases h0 : kk = 0
  · rw [if_pos h0, v1 h0, v2 h0, lg_self, if_pos rfl, l1123]
  · rw [if_neg h0, l1123]
theorem call_step0 {sc : List Int32} {K : Nat → Nat → Nat → Int32 → zW → Option (Int32 × zW)} {i : Nat} {w : zW} (c : zW → Option (Int32 × zW)) (m : zW → Option (Unit × zW)) (hI : II w)
    (h : ∀ J A s x Q B L wd, Sh A → CI J A B L wd → MI J A B L wd → GI B L wd → ∃ kk B' L' wd', GI B' L' wd' ∧ CU J A (c (YW J A s (.inr (.inl [x]) :: Q))) kk B' L' wd' ∧ ∀ J1 A1 s1 Q1, Sh A1 → MI J1 A1 B L wd → MU J1 A1 s1 Q1 (m (YW J1 A1 s1 Q1)) kk B' L' wd') :
    ∃ w', II w' ∧ ((c w).bind fun r => (zobj r.2 39 9).bind fun _ => (m r.2).bind fun r2 => (zobj r2.2 39 9).bind fun _ => (f_Model_thrown F 39 r2.2).bind fun r3 => if r3.1 = r.1 then (b_Law_law_1123 F sc K 0 39 60 (nI i) r3.2) else (some ((0 : Int32), r3.2))) = K 0 39 60 (nI (i + 4)) w' := by
  obtain ⟨J, A, s, x, Q, B, L, wd, rfl, hS, hC, hM, hG⟩ := II_YW hI
  obtain ⟨kk, B', L', wd', hG', ⟨J1, A1, s1, x1, Q1, e1, S1, C1, j1, a1⟩, hm⟩ := h J A s x Q B L wd hS hC hM hG
  obtain ⟨J2, A2, e2, S2, M2, k2, j2, a2⟩ := hm J1 A1 s1 (.inr (.inl [x1]) :: Q1) S1 (MI_eq hM j1 a1)
  refine ⟨YW J2 A2 s1 (.inr (.inl [x1]) :: Q1), YW_II S2 (CI_eq C1 j2 a2) M2 hG', ?_⟩
  rw [e1, Option.bind_some]
  simp only [wo_M, Option.bind_some, e2, thrownW, k2]
  rw [if_pos trivial, l1123]
end St
/-! give, put: bytes behind a row -/
section Gv
variable {J : yJ} {A : yA} {s : Nat} {Q : zW} {F : Nat}
theorem M_give_l (x : Int64) (h0 : J 39 0 = 0) : ∀ (t q n : Nat) (ys : List Int32), t < q → t ≤ 8 → n + t ≤ 200 → ys.length = 200 → l_Model_give_42 F q 39 x (nI t - 1) (YW (pj J 39 1 (nI n)) (ud A 40 ys) s Q) = some (nI (n + t), YW (pj J 39 1 (nI (n + t))) (ud A 40 (wr ys n (hbs x t))) s Q) := by
  intro t
  induction t with
  | zero =>
    intro q n ys hq _ _ _
    obtain ⟨q, rfl⟩ : ∃ q', q = q' + 1 := ⟨q - 1, by omega⟩
    show b_Model_give_42 F (l_Model_give_42 F q) 39 x (nI 0 - 1) _ = _
    unfold b_Model_give_42 b_Model_give_91
    rw [if_pos (by decide)]
    simp only [wg_M, Option.bind_some]
    rw [pj_k (by decide), h0, if_pos (by decide), pj_s]
    simp [hbs, wr_nil]
  | succ t ih =>
    intro q n ys hq ht hn hy
    obtain ⟨q, rfl⟩ : ∃ q', q = q' + 1 := ⟨q - 1, by omega⟩
    show b_Model_give_42 F (l_Model_give_42 F q) 39 x (nI (t + 1) - 1) _ = _
    unfold b_Model_give_42
    rw [nI_pred, if_neg (nI_pos (by omega))]
    simp only [wg_M, Option.bind_some]
    rw [pj_k (by decide), h0, if_pos rfl, pj_s, as_ (by decide) (by rw [ud_s]; omega) (by rw [ud_s]; omega), Option.bind_some]
    simp only [wg_M, wp_M, Option.bind_some]
    rw [pj_s, nI_1, pj_pj, ud_ud, ud_s, wr_set (by omega), ← Int32.sub_eq_add_neg]
    show l_Model_give_42 F q 39 x (nI t - 1) (YW (pj J 39 1 (nI (n + 1))) (ud A 40 (wr ys n [mlb x t])) s Q) = _
    rw [ih q (n + 1) _ (by omega) (by omega) (by omega) (by rw [wr_len (by rw [List.length_singleton]; omega)]; exact hy), mlb_lb x (by omega)]
    have e := wr_wr (xs := ys) (n := n) (X := [lb x t]) (Y := hbs x t) (by rw [List.length_singleton, hbs_len]; omega)
    rw [List.length_singleton] at e
    rw [e, hbs_succ, show n + 1 + t = n + (t + 1) by omega]
    rfl
theorem M_put_l (x : Int64) (h0 : J 39 0 = 0) : ∀ (t q n : Nat) (ys : List Int32), t < q → t ≤ 8 → n + t ≤ 1600 → ys.length = 1600 → l_Model_put_42 F q 39 x (nI t - 1) (YW (pj J 39 3 (nI n)) (ud A 41 ys) s Q) = some (nI (n + t), YW (pj J 39 3 (nI (n + t))) (ud A 41 (wr ys n (hbs x t))) s Q) := by
  intro t
  induction t with
  | zero =>
    intro q n ys hq _ _ _
    obtain ⟨q, rfl⟩ : ∃ q', q = q' + 1 := ⟨q - 1, by omega⟩
    show b_Model_put_42 F (l_Model_put_42 F q) 39 x (nI 0 - 1) _ = _
    unfold b_Model_put_42 b_Model_put_91
    rw [if_pos (by decide)]
    simp only [wg_M, Option.bind_some]
    rw [pj_k (by decide), h0, if_pos (by decide), pj_s]
    simp [hbs, wr_nil]
  | succ t ih =>
    intro q n ys hq ht hn hy
    obtain ⟨q, rfl⟩ : ∃ q', q = q' + 1 := ⟨q - 1, by omega⟩
    show b_Model_put_42 F (l_Model_put_42 F q) 39 x (nI (t + 1) - 1) _ = _
    unfold b_Model_put_42
    rw [nI_pred, if_neg (nI_pos (by omega))]
    simp only [wg_M, Option.bind_some]
    rw [pj_k (by decide), h0, if_pos rfl, pj_s, as_ (by decide) (by rw [ud_s]; omega) (by rw [ud_s]; omega), Option.bind_some]
    simp only [wg_M, wp_M, Option.bind_some]
    rw [pj_s, nI_1, pj_pj, ud_ud, ud_s, wr_set (by omega), ← Int32.sub_eq_add_neg]
    show l_Model_put_42 F q 39 x (nI t - 1) (YW (pj J 39 3 (nI (n + 1))) (ud A 41 (wr ys n [mlb x t])) s Q) = _
    rw [ih q (n + 1) _ (by omega) (by omega) (by omega) (by rw [wr_len (by rw [List.length_singleton]; omega)]; exact hy), mlb_lb x (by omega)]
    have e := wr_wr (xs := ys) (n := n) (X := [lb x t]) (Y := hbs x t) (by rw [List.length_singleton, hbs_len]; omega)
    rw [List.length_singleton] at e
    rw [e, hbs_succ, show n + 1 + t = n + (t + 1) by omega]
    rfl
theorem M_fill_l (b : Int32) (h0 : J 39 0 = 0) (tt : Nat) : ∀ (q k n : Nat) (ys : List Int32), k ≤ tt → tt - k < q → tt ≤ 200 → n + (tt - k) ≤ 200 → ys.length = 200 → l_Model_fill_51 F q 39 b (nI tt) (nI k) (YW (pj J 39 1 (nI n)) (ud A 40 ys) s Q) = some (nI (n + (tt - k)), YW (pj J 39 1 (nI (n + (tt - k)))) (ud A 40 (wr ys n (List.replicate (tt - k) b))) s Q) := by
  intro q
  induction q with
  | zero => intro k n ys _ h2; omega
  | succ q ih =>
    intro k n ys hk hq ht hn hy
    show b_Model_fill_51 F (l_Model_fill_51 F q) 39 b (nI tt) (nI k) _ = _
    unfold b_Model_fill_51
    by_cases hlt : k < tt
    · rw [if_neg (nI_ge hlt (by omega))]
      simp only [wg_M, Option.bind_some]
      rw [pj_k (by decide), h0, if_pos rfl, pj_s, as_ (by decide) (by rw [ud_s]; omega) (by rw [ud_s]; omega), Option.bind_some]
      simp only [wg_M, wp_M, Option.bind_some]
      rw [pj_s, nI_1, pj_pj, ud_ud, ud_s, wr_set (by omega), nI_1, ih (k + 1) (n + 1) _ (by omega) (by omega) ht (by omega) (by rw [wr_len (by rw [List.length_singleton]; omega)]; exact hy)]
      have e := wr_wr (xs := ys) (n := n) (X := [b]) (Y := List.replicate (tt - (k + 1)) b) (by rw [List.length_singleton, List.length_replicate]; omega)
      rw [List.length_singleton] at e
      rw [e, show n + 1 + (tt - (k + 1)) = n + (tt - k) by omega, show tt - k = tt - (k + 1) + 1 by omega, List.replicate_succ]
      rfl
    · have e : tt - k = 0 := by omega
      rw [if_pos (nI_le (by omega) (by omega)), e]
      unfold b_Model_fill_89
      simp only [wg_M, Option.bind_some]
      rw [pj_k (by decide), h0, if_pos (by decide), pj_s]
      simp [wr_nil]
theorem C_fill_l {n : Nat} (hS : Sh A) (b : Int32) (tt : Nat) : ∀ (q k : Nat) (X : List Int32), k ≤ tt → tt - k < q → tt ≤ 200 → n + X.length + (tt - k) ≤ 200 → l_Zip_fill_48 F q 0 b (nI tt) (nI k) (ra J A s Q 1 2 n X) = some (.inl (nI (n + X.length + (tt - k))), ra J A s Q 1 2 n (X ++ List.replicate (tt - k) b)) := by
  intro q
  induction q with
  | zero => intro k X _ h2; omega
  | succ q ih =>
    intro k X hk hq ht hn
    show b_Zip_fill_48 F (l_Zip_fill_48 F q) 0 b (nI tt) (nI k) _ = _
    unfold b_Zip_fill_48
    have g0 : getR (ra J A s Q 1 2 n X) 0 8 0 = some 1 := rfl
    by_cases hlt : k < tt
    · obtain ⟨fs, hf⟩ := ra_o (J := J) (A := A) (s := s) (Q := Q) (n := n) (X := X) (show isR 1 2 from Or.inl ⟨rfl, rfl⟩)
      rw [if_neg (nI_ge hlt (by omega)), g0, Option.bind_some, hf, Option.bind_some, ra_append (Or.inl ⟨rfl, rfl⟩) hS (by show _ < 200; omega), Option.bind_some]
      simp only []
      rw [nI_1, ih (k + 1) _ (by omega) (by omega) ht (by rw [List.length_append, List.length_singleton]; omega)]
      rw [List.length_append, List.length_singleton, List.append_assoc, show n + (X.length + 1) + (tt - (k + 1)) = n + X.length + (tt - k) by omega, show tt - k = tt - (k + 1) + 1 by omega, List.replicate_succ]
      rfl
    · have e : tt - k = 0 := by omega
      rw [if_pos (nI_le (by omega) (by omega)), e, g0, Option.bind_some]
      have g1 : getI (ra J A s Q 1 2 n X) 1 0 1 = some (nI (n + X.length)) := by unfold ra; rw [R_1 (Or.inl ⟨rfl, rfl⟩), pj_s]
      rw [g1, Option.bind_some]
      simp
end Gv
