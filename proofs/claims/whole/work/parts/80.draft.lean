/-! The draft: what is written into it byte by byte, part by part; what does not fit is dropped and remembered. -/
def sB (st : List Int32 × Int32) (b : Int32) : List Int32 × Int32 := if (st.1.take 1600).length < 1600 then (st.1.take 1600 ++ [b], st.2) else (st.1.take 1600, 1)
def sN (st : List Int32 × Int32) (X : List Int32) : List Int32 × Int32 := X.foldl sB st
def sP (st : List Int32 × Int32) (X : List Int32) : List Int32 × Int32 := if (st.1.take 1600).length + X.length ≤ 1600 then (st.1.take 1600 ++ X, st.2) else (st.1.take 1600, 1)
def sZ (st : List Int32 × Int32) : Int32 := nI (st.1.take 1600).length
theorem sN_app (st : List Int32 × Int32) (X Y : List Int32) : sN (sN st X) Y = sN st (X ++ Y) := by unfold sN; rw [List.foldl_append]
/-- the state stands for U -/
def Rp (st : List Int32 × Int32) (U : List Int32) : Prop := (U.length ≤ 1600 ∧ st = (U, 0)) ∨ (1600 < U.length ∧ st.2 = 1)
theorem t16 {U : List Int32} (h : U.length ≤ 1600) : U.take 1600 = U := List.take_of_length_le h
theorem Rp.b {st : List Int32 × Int32} {U : List Int32} {b : Int32} (h : Rp st U) : Rp (sB st b) (U ++ [b]) := by
  rcases h with ⟨h1, rfl⟩ | ⟨h1, h2⟩
  · unfold sB
    simp only [t16 h1]
    by_cases h : U.length < 1600
    · rw [if_pos h]
      exact Or.inl ⟨by rw [List.length_append, List.length_singleton]; omega, rfl⟩
    · rw [if_neg h]
      exact Or.inr ⟨by rw [List.length_append, List.length_singleton]; omega, rfl⟩
  · refine Or.inr ⟨by rw [List.length_append]; omega, ?_⟩
    unfold sB
    by_cases h : (st.1.take 1600).length < 1600
    · rw [if_pos h]; exact h2
    · rw [if_neg h]
theorem Rp.n {X : List Int32} : ∀ {st : List Int32 × Int32} {U : List Int32}, Rp st U → Rp (sN st X) (U ++ X) := by
  induction X with
  | nil => intro st U h; rw [List.append_nil]; exact h
  | cons b X ih =>
    intro st U h
    have := ih (h.b (b := b))
    rw [List.append_assoc] at this
    exact this
theorem Rp.p {st : List Int32 × Int32} {U X : List Int32} (h : Rp st U) : Rp (sP st X) (U ++ X) := by
  rcases h with ⟨h1, rfl⟩ | ⟨h1, h2⟩
  · unfold sP
    simp only [t16 h1]
    by_cases h : U.length + X.length ≤ 1600
    · rw [if_pos h]
      exact Or.inl ⟨by rw [List.length_append]; omega, rfl⟩
    · rw [if_neg h]
      exact Or.inr ⟨by rw [List.length_append]; omega, rfl⟩
  · refine Or.inr ⟨by rw [List.length_append]; omega, ?_⟩
    unfold sP
    by_cases h : (st.1.take 1600).length + X.length ≤ 1600
    · rw [if_pos h]; exact h2
    · rw [if_neg h]
/-- in overflow only the length counts -/
theorem Rp.any {st : List Int32 × Int32} {U V : List Int32} (h : Rp st U) (hl : V.length = U.length) (he : U.length ≤ 1600 → V = U) : Rp st V := by
  rcases h with ⟨h1, h2⟩ | ⟨h1, h2⟩
  · rw [he h1]; exact Or.inl ⟨h1, h2⟩
  · exact Or.inr ⟨by omega, h2⟩
theorem Rp.z {st : List Int32 × Int32} {U : List Int32} (h : Rp st U) (hl : U.length ≤ 1600) : sZ st = nI U.length := by
  rcases h with ⟨h1, rfl⟩ | ⟨h1, h2⟩
  · unfold sZ; simp only [t16 h1]
  · omega
def dw (J : yJ) (A : yA) (s : Nat) (Q : zW) (st : List Int32 × Int32) : zW := YW (pj (pj J 36 1 (sZ st)) 36 2 st.2) (ud A 37 (wr (A 37) 0 (st.1.take 1600))) s Q
section Dw
variable {J : yJ} {A : yA} {s : Nat} {Q : zW} {F : Nat} {st : List Int32 × Int32}
theorem r36 : isR 36 37 := Or.inr (Or.inr (Or.inr (Or.inr ⟨rfl, rfl⟩)))
theorem dw_g : getR (dw J A s Q st) 35 7 0 = some 36 ∧ getI (dw J A s Q st) 35 7 1 = some (J 35 1) ∧ zobj (dw J A s Q st) 36 0 = some [.inr (some 37), .inl (sZ st), .inl st.2] ∧ getI (dw J A s Q st) 36 0 1 = some (sZ st) ∧ getI (dw J A s Q st) 36 0 2 = some st.2 ∧ zobj (dw J A s Q st) 35 7 = some [.inr (some 36), .inl (J 35 1)] ∧ getR (dw J A s Q st) 0 8 0 = some 1 ∧ getR (dw J A s Q st) 0 8 1 = some 3 ∧ getR (dw J A s Q st) 0 8 2 = some 5 ∧ getR (dw J A s Q st) 0 8 6 = some 24 ∧ getR (dw J A s Q st) 0 8 7 = some 35 ∧ getR (dw J A s Q st) 0 8 8 = some 38 ∧ zobj (dw J A s Q st) 0 8 = some zipF ∧ getI (dw J A s Q st) 3 0 1 = some (J 3 1) ∧ zobj (dw J A s Q st) 3 0 = some [.inr (some 4), .inl (J 3 1), .inl (J 3 2)] ∧ getI (dw J A s Q st) 24 6 3 = some (J 24 3) ∧ getI (dw J A s Q st) 24 6 4 = some (J 24 4) ∧ getI (dw J A s Q st) 24 6 6 = some (J 24 6) ∧ getR (dw J A s Q st) 24 6 2 = some 26 := by
  refine ⟨rfl, rfl, rfl, rfl, rfl, rfl, rfl, rfl, rfl, rfl, rfl, rfl, rfl, rfl, rfl, rfl, rfl, rfl, rfl⟩
theorem dw_38 : getI (dw J A s Q st) 38 1 0 = some (J 38 0) ∧ getI (dw J A s Q st) 38 1 1 = some (J 38 1) ∧ getI (dw J A s Q st) 38 1 2 = some (J 38 2) ∧ getI (dw J A s Q st) 38 1 3 = some (J 38 3) ∧ getI (dw J A s Q st) 38 1 4 = some (J 38 4) ∧ getI (dw J A s Q st) 38 1 5 = some (J 38 5) ∧ getI (dw J A s Q st) 38 1 6 = some (J 38 6) ∧ getI (dw J A s Q st) 1 0 1 = some (J 1 1) ∧ getI (dw J A s Q st) 5 0 1 = some (J 5 1) := by
  refine ⟨rfl, rfl, rfl, rfl, rfl, rfl, rfl, rfl, rfl⟩
theorem dw_S (hS : Sh A) : Sh (ud A 37 (wr (A 37) 0 (st.1.take 1600))) := by
  refine hS.ud (wr_len ?_)
  have h : (A 37).length = 1600 := hS 37
  rw [List.length_take]
  omega
theorem dw_mk {n : Nat} {X T : List Int32} {ov : Int32} (hS : Sh A) (hT : T.length = n) (h : n + X.length ≤ 1600) : YW (pj (pj (pj J 36 1 (nI n)) 36 2 ov) 36 1 (nI (n + X.length))) (ud (ud A 37 (wr (A 37) 0 T)) 37 (wr (ud A 37 (wr (A 37) 0 T) 37) n X)) s Q = dw J A s Q (T ++ X, ov) := by
  subst hT
  have hl : (A 37).length = 1600 := hS 37
  have e : wr (wr (A 37) 0 T) T.length X = wr (A 37) 0 (T ++ X) := by
    have := wr_wr (xs := A 37) (n := 0) (X := T) (Y := X) (by omega)
    rw [Nat.zero_add] at this
    exact this
  unfold dw sZ
  simp only [t16 (show (T ++ X).length ≤ 1600 by rw [List.length_append]; omega)]
  rw [ud_s, ud_ud, e, List.length_append, pj_comm (o := 36) (k := 2) (p := 36) (q := 1) (Or.inr (by decide)), pj_pj]
theorem dw_append (hS : Sh A) {b : Int32} : f_Row_append F 36 b (dw J A s Q st) = some ((), dw J A s Q (sB st b)) := by
  have hT : (st.1.take 1600).length ≤ 1600 := List.length_take_le _ _
  have hl : (A 37).length = 1600 := hS 37
  unfold sB
  by_cases h : (st.1.take 1600).length < 1600
  · rw [if_pos h, ← dw_mk hS rfl (by rw [List.length_singleton]; omega)]
    unfold dw
    rw [W_append r36 (dw_S hS) rfl h, wr_set (by rw [ud_s, wr_len (by omega)]; omega)]
    rfl
  · rw [if_neg h]
    unfold dw
    rw [W_append_full (n := (st.1.take 1600).length) r36 (dw_S hS) rfl (by show _ = 1600; omega), pj_pj]
    unfold sZ
    simp only [List.take_take, Nat.min_self]
theorem dw_num_l (hS : Sh A) (x : Int64) (t : Nat) : ∀ (q k : Nat) (st : List Int32 × Int32), k ≤ t → t - k < q → t < 2 ^ 31 → l_Row_appendNumber_3 F q 36 x (nI t) (nI k) (dw J A s Q st) = some ((), dw J A s Q (sN st (lbs x k t))) := by
  intro q
  induction q with
  | zero => intro k X _ h2; omega
  | succ q ih =>
    intro k st h1 h2 ht
    show b_Row_appendNumber_3 F (l_Row_appendNumber_3 F q) 36 x (nI t) (nI k) _ = _
    unfold b_Row_appendNumber_3
    by_cases hk : k < t
    · rw [if_neg (nI_ge hk ht), dw_g.2.2.1, Option.bind_some]
      show (f_Row_append F 36 (lb x k) _).bind _ = _
      rw [dw_append hS, Option.bind_some]
      show l_Row_appendNumber_3 F q 36 x (nI t) (nI k + 1) _ = _
      rw [nI_1, ih (k + 1) _ (by omega) (by omega) ht, lbs_cons hk]
      rfl
    · rw [if_pos (nI_le (by omega) (by omega))]
      have : t - k = 0 := by omega
      unfold lbs
      rw [this]
      rfl
theorem dw_n (hF : 20000 ≤ F) (hS : Sh A) (x : Int64) {t : Nat} (ht : t ≤ 8) : f_Row_appendNumber F 36 x (nI t) (dw J A s Q st) = some ((), dw J A s Q (sN st (lbs x 0 t))) := dw_num_l hS x t F 0 st (Nat.zero_le _) (by omega) (by omega)
theorem dw_high_l (hS : Sh A) (x : Int64) : ∀ (t q : Nat) (st : List Int32 × Int32), t < q → t < 2 ^ 31 → l_Row_appendHighestFirst_5 F q 36 x (nI t - 1) (dw J A s Q st) = some ((), dw J A s Q (sN st (hbs x t))) := by
  intro t
  induction t with
  | zero =>
    intro q X hq _
    obtain ⟨q, rfl⟩ : ∃ q', q = q' + 1 := ⟨q - 1, by omega⟩
    show b_Row_appendHighestFirst_5 F (l_Row_appendHighestFirst_5 F q) 36 x (nI 0 - 1) _ = _
    unfold b_Row_appendHighestFirst_5
    rw [if_pos (by decide)]
    rfl
  | succ t ih =>
    intro q st hq ht
    obtain ⟨q, rfl⟩ : ∃ q', q = q' + 1 := ⟨q - 1, by omega⟩
    show b_Row_appendHighestFirst_5 F (l_Row_appendHighestFirst_5 F q) 36 x (nI (t + 1) - 1) _ = _
    unfold b_Row_appendHighestFirst_5
    rw [nI_pred, if_neg (nI_pos (by omega)), dw_g.2.2.1, Option.bind_some]
    show (f_Row_append F 36 (lb x t) _).bind _ = _
    rw [dw_append hS, Option.bind_some, ← Int32.sub_eq_add_neg]
    show l_Row_appendHighestFirst_5 F q 36 x (nI t - 1) _ = _
    rw [ih q _ (by omega) (by omega), hbs_succ]
    rfl
theorem dw_h (hF : 20000 ≤ F) (hS : Sh A) (x : Int64) {t : Nat} (ht : t ≤ 8) : f_Row_appendHighestFirst F 36 x (nI t) (dw J A s Q st) = some ((), dw J A s Q (sN st (hbs x t))) := dw_high_l hS x t F st (by omega) (by omega)
theorem dw_part {r a m p q : Nat} (h : isR r a) (hr : r ≠ 36) (ha : a ≠ 37) (hS : Sh A) (h3 : J r 1 = nI m) (hm : m ≤ aL a) (hp : p ≤ q) (hq : q ≤ m) : f_Row_appendPart F 36 r (nI p) (nI q) (dw J A s Q st) = some ((), dw J A s Q (sP st (((A a).drop p).take (q - p)))) := by
  have hT : (st.1.take 1600).length ≤ 1600 := List.length_take_le _ _
  have hl : (A 37).length = 1600 := hS 37
  have hl2 := hS a
  have e3 : pj (pj J 36 1 (sZ st)) 36 2 st.2 r 1 = nI m := by rw [pj_o hr, pj_o hr, h3]
  have hX : (((A a).drop p).take (q - p)).length = q - p := by rw [List.length_take, List.length_drop]; omega
  unfold sP
  by_cases hc : (st.1.take 1600).length + (q - p) ≤ 1600
  · rw [hX, if_pos hc, ← dw_mk hS rfl (by rw [hX]; exact hc)]
    unfold dw
    rw [W_part (n := (st.1.take 1600).length) r36 h (dw_S hS) rfl hT e3 hm hp hq hc, ud_n ha]
    rfl
  · rw [hX, if_neg hc]
    unfold dw
    rw [W_part_full (n := (st.1.take 1600).length) r36 h (dw_S hS) rfl hT e3 hm hp hq hc, pj_pj]
    unfold sZ
    simp only [List.take_take, Nat.min_self]
end Dw
/-! the end -/
def wE (n ds sz z : Int32) : List Int32 := lbs 101075792 0 4 ++ lbs 44 0 8 ++ lbs 0 0 4 ++ lbs 0 0 8 ++ lbs n.toInt64 0 8 ++ lbs n.toInt64 0 8 ++ lbs sz.toInt64 0 8 ++ lbs ds.toInt64 0 8 ++ lbs 117853008 0 4 ++ lbs 0 0 4 ++ lbs z.toInt64 0 8 ++ lbs 0 0 4
def nE (wd n ds sz rm : Int32) : List Int32 := lbs 101010256 0 4 ++ lbs 0 0 4 ++ lbs (if wd = 0 then n.toInt64 else 65535) 0 2 ++ lbs (if wd = 0 then n.toInt64 else 65535) 0 2 ++ lbs (if wd = 0 then sz.toInt64 else 4294967295) 0 4 ++ lbs (if wd = 0 then ds.toInt64 else 4294967295) 0 4 ++ lbs rm.toInt64 0 2
def eE (wd n ds z rm : Int32) : List Int32 := (if wd = 0 then [] else wE n ds (z - ds) z) ++ nE wd n ds (z - ds) rm
theorem wE_len (n ds sz z : Int32) : (wE n ds sz z).length = 76 := by
  unfold wE
  generalize n.toInt64 = a, sz.toInt64 = b, ds.toInt64 = c, z.toInt64 = d
  generalize (101075792 : Int64) = e, (44 : Int64) = f, (0 : Int64) = g, (117853008 : Int64) = h
  simp only [List.length_append, lbs_len]
theorem nE_len (wd n ds sz rm : Int32) : (nE wd n ds sz rm).length = 22 := by
  unfold nE
  generalize (if wd = 0 then n.toInt64 else 65535) = a, (if wd = 0 then sz.toInt64 else 4294967295) = b, (if wd = 0 then ds.toInt64 else 4294967295) = c, rm.toInt64 = d
  generalize (101010256 : Int64) = e, (0 : Int64) = g
  simp only [List.length_append, lbs_len]
theorem eE_len (wd n ds z rm : Int32) : (eE wd n ds z rm).length = if wd = 0 then 22 else 98 := by
  unfold eE
  by_cases h : wd = 0
  · rw [if_pos h, if_pos h, List.length_append, nE_len]; rfl
  · rw [if_neg h, if_neg h, List.length_append, nE_len, wE_len]
section We
variable {J : yJ} {A : yA} {s : Nat} {Q : zW} {F : Nat} {st : List Int32 × Int32}
theorem dw_n2 (hF : 20000 ≤ F) (hS : Sh A) (x : Int64) (st : List Int32 × Int32) : f_Row_appendNumber F 36 x 2 (dw J A s Q st) = some ((), dw J A s Q (sN st (lbs x 0 2))) := dw_n (t := 2) hF hS x (by decide)
theorem dw_n4 (hF : 20000 ≤ F) (hS : Sh A) (x : Int64) (st : List Int32 × Int32) : f_Row_appendNumber F 36 x 4 (dw J A s Q st) = some ((), dw J A s Q (sN st (lbs x 0 4))) := dw_n (t := 4) hF hS x (by decide)
theorem dw_n8 (hF : 20000 ≤ F) (hS : Sh A) (x : Int64) (st : List Int32 × Int32) : f_Row_appendNumber F 36 x 8 (dw J A s Q st) = some ((), dw J A s Q (sN st (lbs x 0 8))) := dw_n (t := 8) hF hS x (by decide)
theorem dw_wide (hF : 20000 ≤ F) (hS : Sh A) (n ds sz : Int32) : f_Writer_writeWideEnd F 35 n ds sz (dw J A s Q st) = some ((), dw J A s Q (sN st (wE n ds sz (sZ st)))) := by
  unfold f_Writer_writeWideEnd b_Writer_writeWideEnd_0
  simp only [dw_g, dw_n4 hF hS, dw_n8 hF hS, Option.bind_some, sN_app]
  unfold wE
  simp only [List.append_assoc]
theorem dw_end26 (hF : 20000 ≤ F) (hS : Sh A) (n ds rm sz : Int32) : b_Writer_writeEnd_26 F 35 n ds rm sz (dw J A s Q st) = some ((), dw J A s Q (sN st (nE (J 35 1) n ds sz rm))) := by
  unfold nE
  by_cases h : J 35 1 = 0
  · have c2 : ∀ a b : Int64, (if J 35 1 = 0 then a else b) = a := fun a b => if_pos h
    rw [c2, c2, c2]
    unfold b_Writer_writeEnd_26
    simp only [dw_g, dw_n4 hF hS, Option.bind_some, sN_app]
    rw [if_pos h]
    unfold b_Writer_writeEnd_65
    simp only [dw_g, dw_n2 hF hS, Option.bind_some, sN_app]
    rw [if_pos h]
    unfold b_Writer_writeEnd_88
    simp only [dw_g, dw_n2 hF hS, Option.bind_some, sN_app]
    rw [if_pos h]
    unfold b_Writer_writeEnd_112
    simp only [dw_g, dw_n4 hF hS, Option.bind_some, sN_app]
    rw [if_pos h]
    unfold b_Writer_writeEnd_135
    simp only [dw_g, dw_n2 hF hS, dw_n4 hF hS, Option.bind_some, sN_app]
  · have c2 : ∀ a b : Int64, (if J 35 1 = 0 then a else b) = b := fun a b => if_neg h
    rw [c2, c2, c2]
    unfold b_Writer_writeEnd_26
    simp only [dw_g, dw_n4 hF hS, Option.bind_some, sN_app]
    rw [if_neg h]
    unfold b_Writer_writeEnd_65
    simp only [dw_g, dw_n2 hF hS, Option.bind_some, sN_app]
    rw [if_neg h]
    unfold b_Writer_writeEnd_88
    simp only [dw_g, dw_n2 hF hS, Option.bind_some, sN_app]
    rw [if_neg h]
    unfold b_Writer_writeEnd_112
    simp only [dw_g, dw_n4 hF hS, Option.bind_some, sN_app]
    rw [if_neg h]
    unfold b_Writer_writeEnd_135
    simp only [dw_g, dw_n2 hF hS, dw_n4 hF hS, Option.bind_some, sN_app]
theorem dw_writeEnd (hF : 20000 ≤ F) (hS : Sh A) (n ds rm : Int32) : f_Writer_writeEnd F 35 n ds rm (dw J A s Q st) = some ((), dw J A s Q (sN st (eE (J 35 1) n ds (sZ st) rm))) := by
  unfold f_Writer_writeEnd b_Writer_writeEnd_0 eE
  simp only [dw_g, dw_wide hF hS, dw_end26 hF hS, Option.bind_some, sN_app]
  by_cases h : J 35 1 = 0
  · rw [if_pos h, if_pos h, List.nil_append]
  · rw [if_neg h, if_neg h]
end We
