/-! The reference's draft. -/
def md (J : yJ) (A : yA) (s : Nat) (Q : zW) (T : List Int32) : zW := YW (pj J 39 31 (nI T.length)) (ud A 59 (wr (A 59) 0 T)) s Q
def mlbs (x : Int64) (n : Nat) : List Int32 := (List.range' 0 n).map (mlb x)
theorem mlbs_len {x : Int64} {n : Nat} : (mlbs x n).length = n := by unfold mlbs; rw [List.length_map, List.length_range']
theorem mlbs_lbs {x : Int64} {n : Nat} (h : n ≤ 8) : mlbs x n = lbs x 0 n := by
  unfold mlbs lbs
  rw [Nat.sub_zero]
  apply List.map_congr_left
  intro k hk
  rw [List.mem_range'_1] at hk
  exact mlb_lb x (by omega)
theorem mlbs_0 {n : Nat} : mlbs 0 n = List.replicate n 0 := by
  unfold mlbs
  apply List.eq_replicate_iff.mpr
  refine ⟨by rw [List.length_map, List.length_range'], ?_⟩
  intro b hb
  rw [List.mem_map] at hb
  obtain ⟨k, -, rfl⟩ := hb
  exact mlb_0 k
section Md
variable {J : yJ} {A : yA} {s : Nat} {Q : zW} {F : Nat} {T L : List Int32}
theorem md_o {α : Type} (X : Option α) : ((zobj (md J A s Q T) 39 9).bind fun _ => X) = X := rfl
theorem md_g : getI (md J A s Q T) 39 9 31 = some (nI T.length) ∧ getI (md J A s Q T) 39 9 0 = some (J 39 0) ∧ getI (md J A s Q T) 39 9 1 = some (J 39 1) ∧ getI (md J A s Q T) 39 9 3 = some (J 39 3) ∧ getI (md J A s Q T) 39 9 5 = some (J 39 5) ∧ getI (md J A s Q T) 39 9 6 = some (J 39 6) ∧ getI (md J A s Q T) 39 9 16 = some (J 39 16) ∧ getI (md J A s Q T) 39 9 17 = some (J 39 17) ∧ getI (md J A s Q T) 39 9 18 = some (J 39 18) ∧ getI (md J A s Q T) 39 9 19 = some (J 39 19) ∧ getR (md J A s Q T) 39 9 7 = some 42 ∧ getR (md J A s Q T) 39 9 27 = some 55 ∧ getR (md J A s Q T) 39 9 28 = some 56 := by
  refine ⟨rfl, rfl, rfl, rfl, rfl, rfl, rfl, rfl, rfl, rfl, rfl, rfl, rfl⟩
theorem md_S (hS : Sh A) (h : T.length ≤ 1700) : Sh (ud A 59 (wr (A 59) 0 T)) := by
  refine hS.ud (wr_len ?_)
  have h : (A 59).length = 1700 := hS 59
  omega
theorem md_put (hS : Sh A) (h : T.length < 1700) (b : Int32) : ((aset (md J A s Q T) 59 (nI T.length) b).bind fun w1 => (getI w1 39 9 31).bind fun x => putI w1 39 9 31 (x + 1)) = some (md J A s Q (T ++ [b])) := by
  have hl : (A 59).length = 1700 := hS 59
  unfold md
  rw [as_ (by decide) (by rw [ud_s, wr_len (by omega)]; omega) (by rw [ud_s, wr_len (by omega)]; omega), Option.bind_some]
  simp only [wg_M, wp_M, Option.bind_some]
  rw [pj_s, pj_pj, nI_1, ud_ud, ud_s, wr_set (by rw [wr_len (by omega)]; omega), List.length_append, List.length_singleton]
  have := wr_wr (xs := A 59) (n := 0) (X := T) (Y := [b]) (by rw [List.length_singleton]; omega)
  rw [Nat.zero_add] at this
  rw [this]
theorem bind3 {α β : Type} {a : Option zW} {g : zW → Option Int32} {h : zW → Int32 → Option zW} {k : zW → Option β} {w : zW} (e : (a.bind fun w1 => (g w1).bind fun x => h w1 x) = some w) : (a.bind fun w1 => (g w1).bind fun x => (h w1 x).bind k) = k w := by
  cases a with
  | none => cases e
  | some w1 =>
    simp only [Option.bind_some] at e ⊢
    cases hg : g w1 with
    | none => rw [hg] at e; cases e
    | some x =>
      rw [hg] at e
      simp only [Option.bind_some] at e ⊢
      rw [e, Option.bind_some]
theorem m_lay_l (hS : Sh A) (v : Int64) (n : Nat) (hn : n < 2 ^ 31) : ∀ (q k : Nat) (T : List Int32), k ≤ n → n - k < q → T.length + (n - k) ≤ 1700 → l_Model_lay_3 F q 39 v (nI n) (nI k) (md J A s Q T) = some ((), md J A s Q (T ++ (List.range' k (n - k)).map (mlb v))) := by
  intro q
  induction q with
  | zero => intro k T _ h2; omega
  | succ q ih =>
    intro k T h1 h2 h3
    show b_Model_lay_3 F (l_Model_lay_3 F q) 39 v (nI n) (nI k) _ = _
    unfold b_Model_lay_3
    by_cases hk : k < n
    · rw [if_neg (nI_ge hk hn), show getR (md J A s Q T) 39 9 32 = some 59 from rfl, Option.bind_some, md_g.1, Option.bind_some]
      rw [bind3 (α := Unit) (md_put hS (by omega) _), nI_1, ih (k + 1) _ (by omega) (by omega) (by rw [List.length_append, List.length_singleton]; omega)]
      rw [show n - k = (n - (k + 1)) + 1 by omega, List.range'_succ, List.map_cons, List.append_assoc]
      rfl
    · rw [if_pos (nI_le (by omega) (by omega))]
      have : n - k = 0 := by omega
      rw [this]
      simp
theorem m_lay (hF : 20000 ≤ F) (hS : Sh A) (v : Int64) {n : Nat} (hn : n ≤ 100) (h : T.length + n ≤ 1700) : f_Model_lay F 39 v (nI n) (md J A s Q T) = some ((), md J A s Q (T ++ mlbs v n)) := m_lay_l hS v n (by omega) F 0 T (Nat.zero_le _) (by omega) (by omega)
theorem m_l1 (hF : 20000 ≤ F) (hS : Sh A) (v : Int64) (h : T.length + 1 ≤ 1700) : f_Model_lay F 39 v 1 (md J A s Q T) = some ((), md J A s Q (T ++ lbs v 0 1)) := by rw [← mlbs_lbs (by decide)]; exact m_lay (n := 1) hF hS v (by decide) h
theorem m_l2 (hF : 20000 ≤ F) (hS : Sh A) (v : Int64) (h : T.length + 2 ≤ 1700) : f_Model_lay F 39 v 2 (md J A s Q T) = some ((), md J A s Q (T ++ lbs v 0 2)) := by rw [← mlbs_lbs (by decide)]; exact m_lay (n := 2) hF hS v (by decide) h
theorem m_l4 (hF : 20000 ≤ F) (hS : Sh A) (v : Int64) (h : T.length + 4 ≤ 1700) : f_Model_lay F 39 v 4 (md J A s Q T) = some ((), md J A s Q (T ++ lbs v 0 4)) := by rw [← mlbs_lbs (by decide)]; exact m_lay (n := 4) hF hS v (by decide) h
theorem m_l8 (hF : 20000 ≤ F) (hS : Sh A) (v : Int64) (h : T.length + 8 ≤ 1700) : f_Model_lay F 39 v 8 (md J A s Q T) = some ((), md J A s Q (T ++ lbs v 0 8)) := by rw [← mlbs_lbs (by decide)]; exact m_lay (n := 8) hF hS v (by decide) h
theorem m_l12 (hF : 20000 ≤ F) (hS : Sh A) (h : T.length + 12 ≤ 1700) : f_Model_lay F 39 0 12 (md J A s Q T) = some ((), md J A s Q (T ++ (lbs 0 0 4 ++ lbs 0 0 8))) := by
  rw [← mlbs_lbs (n := 4) (by decide), ← mlbs_lbs (n := 8) (by decide), mlbs_0, mlbs_0, List.replicate_append_replicate, ← mlbs_0]
  exact m_lay (n := 12) hF hS 0 (by decide) h
theorem m_l10 (hF : 20000 ≤ F) (hS : Sh A) (h : T.length + 10 ≤ 1700) : f_Model_lay F 39 0 10 (md J A s Q T) = some ((), md J A s Q (T ++ (lbs 0 0 2 ++ lbs 0 0 8))) := by
  rw [← mlbs_lbs (n := 2) (by decide), ← mlbs_lbs (n := 8) (by decide), mlbs_0, mlbs_0, List.replicate_append_replicate, ← mlbs_0]
  exact m_lay (n := 10) hF hS 0 (by decide) h
theorem lbs_m1 : lbs (-1) 0 4 = lbs 4294967295 0 4 := by decide
theorem m_end101 (hF : 20000 ≤ F) (hS : Sh A) (n ds rm z : Int32) (h : T.length + 22 ≤ 1700) : b_Model_putEnd_101 F 39 ds n rm z (md J A s Q T) = some ((), md J A s Q (T ++ nE (J 39 5) n ds (z - ds) rm)) := by
  unfold nE
  by_cases h5 : J 39 5 = 0
  · have c2 : ∀ a b : Int64, (if J 39 5 = 0 then a else b) = a := fun a b => if_pos h5
    rw [c2, c2, c2]
    unfold b_Model_putEnd_101
    simp (disch := (first | omega | (simp only [List.length_append, lbs_len]; omega))) only [md_g, md_o, m_l4 hF hS, Option.bind_some]
    rw [if_pos h5]
    unfold b_Model_putEnd_131
    simp (disch := (first | omega | (simp only [List.length_append, lbs_len]; omega))) only [md_g, md_o, m_l2 hF hS, Option.bind_some]
    rw [if_pos h5]
    unfold b_Model_putEnd_151
    simp (disch := (first | omega | (simp only [List.length_append, lbs_len]; omega))) only [md_g, md_o, m_l2 hF hS, Option.bind_some]
    rw [if_pos h5]
    unfold b_Model_putEnd_174
    simp (disch := (first | omega | (simp only [List.length_append, lbs_len]; omega))) only [md_g, md_o, m_l4 hF hS, Option.bind_some]
    rw [if_pos h5]
    unfold b_Model_putEnd_194
    simp (disch := (first | omega | (simp only [List.length_append, lbs_len]; omega))) only [md_g, md_o, m_l4 hF hS, m_l2 hF hS, Option.bind_some, List.append_assoc]
  · have c2 : ∀ a b : Int64, (if J 39 5 = 0 then a else b) = b := fun a b => if_neg h5
    rw [c2, c2, c2]
    unfold b_Model_putEnd_101
    simp (disch := (first | omega | (simp only [List.length_append, lbs_len]; omega))) only [md_g, md_o, m_l4 hF hS, Option.bind_some]
    rw [if_neg h5]
    unfold b_Model_putEnd_131
    simp (disch := (first | omega | (simp only [List.length_append, lbs_len]; omega))) only [md_g, md_o, m_l2 hF hS, Option.bind_some]
    rw [if_neg h5]
    unfold b_Model_putEnd_151
    simp (disch := (first | omega | (simp only [List.length_append, lbs_len]; omega))) only [md_g, md_o, m_l2 hF hS, Option.bind_some]
    rw [if_neg h5]
    unfold b_Model_putEnd_174
    simp (disch := (first | omega | (simp only [List.length_append, lbs_len]; omega))) only [md_g, md_o, m_l4 hF hS, Option.bind_some, lbs_m1]
    rw [if_neg h5]
    unfold b_Model_putEnd_194
    simp (disch := (first | omega | (simp only [List.length_append, lbs_len]; omega))) only [md_g, md_o, m_l4 hF hS, m_l2 hF hS, Option.bind_some, List.append_assoc, lbs_m1]
theorem m_putEnd (hF : 20000 ≤ F) (hS : Sh A) (n ds rm : Int32) (h : T.length + 98 ≤ 1700) : f_Model_putEnd F 39 ds n rm (md J A s Q T) = some ((), md J A s Q (T ++ eE (J 39 5) n ds (nI T.length) rm)) := by
  unfold f_Model_putEnd b_Model_putEnd_0 eE
  simp only [md_g, Option.bind_some]
  by_cases h5 : J 39 5 = 0
  · rw [if_pos h5, if_pos h5, m_end101 hF hS n ds rm _ (by omega), List.nil_append]
  · rw [if_neg h5, if_neg h5]
    unfold wE
    simp (disch := (first | omega | (simp only [List.length_append, lbs_len]; omega))) only [md_o, m_l4 hF hS, m_l8 hF hS, m_l12 hF hS, m_end101 hF hS, Option.bind_some, List.append_assoc]
theorem m_putFile_l (hS : Sh A) (h4 : (A 41).take L.length = L) (hL : L.length ≤ 1600) {q : Nat} (hq : q ≤ L.length) : ∀ (m p : Nat) (T : List Int32), p ≤ q → q - p < m → T.length + (q - p) ≤ 1700 → l_Model_putFile_2 F m 39 (nI q) (nI p) (md J A s Q T) = some ((), md J A s Q (T ++ (L.drop p).take (q - p))) := by
  intro m
  induction m with
  | zero => intro p T _ h2; omega
  | succ m ih =>
    intro p T h1 h2 h3
    show b_Model_putFile_2 F (l_Model_putFile_2 F m) 39 (nI q) (nI p) _ = _
    unfold b_Model_putFile_2
    by_cases hk : p < q
    · have hg : aget (md J A s Q T) 41 (nI p) = some L[p] := ag_ (by decide) (by omega) (take_get h4 (by omega))
      rw [if_neg (nI_ge hk (by omega)), show getR (md J A s Q T) 39 9 32 = some 59 from rfl, Option.bind_some, md_g.1, Option.bind_some, show getR (md J A s Q T) 39 9 4 = some 41 from rfl, Option.bind_some, hg, Option.bind_some]
      rw [bind3 (α := Unit) (md_put hS (by omega) _), nI_1, ih (p + 1) _ (by omega) (by omega) (by rw [List.length_append, List.length_singleton]; omega)]
      rw [List.append_assoc, List.drop_eq_getElem_cons (show p < L.length by omega), show q - p = (q - (p + 1)) + 1 by omega, List.take_succ_cons]
      rfl
    · rw [if_pos (nI_le (by omega) (by omega))]
      have : q - p = 0 := by omega
      rw [this, List.take_zero, List.append_nil]
theorem m_putFile (hF : 20000 ≤ F) (hS : Sh A) (h4 : (A 41).take L.length = L) (hL : L.length ≤ 1600) {p q : Nat} (hp : p ≤ q) (hq : q ≤ L.length) (h : T.length + (q - p) ≤ 1700) : f_Model_putFile F 39 (nI p) (nI q) (md J A s Q T) = some ((), md J A s Q (T ++ (L.drop p).take (q - p))) := m_putFile_l hS h4 hL hq F p T hp (by omega) h
theorem m_take_l {K : yA} (hS : Sh K) (h3 : J 39 3 = nI T.length) (h59 : (K 59).take T.length = T) (hT : T.length ≤ 1600) : ∀ (m k : Nat), k ≤ T.length → T.length - k < m → l_Model_takeDraft_10 F m 39 (nI k) (YW J (ud K 41 (wr (K 41) 0 (T.take k))) s Q) = some ((), YW J (ud K 41 (wr (K 41) 0 T)) s Q) := by
  intro m
  induction m with
  | zero => intro k _ h2; omega
  | succ m ih =>
    intro k h1 h2
    have hl : (K 41).length = 1600 := hS 41
    show b_Model_takeDraft_10 F (l_Model_takeDraft_10 F m) 39 (nI k) _ = _
    unfold b_Model_takeDraft_10
    simp only [wg_M, Option.bind_some, h3]
    have ht : (T.take k).length = k := by rw [List.length_take]; omega
    by_cases hk : k < T.length
    · have hg : aget (YW J (ud K 41 (wr (K 41) 0 (T.take k))) s Q) 59 (nI k) = some T[k] := ag_ (by decide) (by omega) (by rw [ud_n (by decide)]; exact take_get h59 hk)
      rw [if_neg (nI_ge hk (by omega)), hg, Option.bind_some, as_ (by decide) (by rw [ud_s, wr_len (by omega)]; omega) (by rw [ud_s, wr_len (by omega)]; omega), Option.bind_some, nI_1, ud_ud, ud_s, wr_set (by rw [wr_len (by omega)]; omega)]
      have e := wr_wr (xs := K 41) (n := 0) (X := T.take k) (Y := [T[k]]) (by rw [List.length_singleton]; omega)
      rw [Nat.zero_add, ht] at e
      rw [e, List.take_append_getElem hk]
      exact ih (k + 1) (by omega) (by omega)
    · rw [if_pos (nI_le (by omega) (by omega)), List.take_of_length_le (by omega)]
theorem m_takeDraft (hF : 20000 ≤ F) (hS : Sh A) (hT : T.length ≤ 1600) : f_Model_takeDraft F 39 (md J A s Q T) = some ((), YW (pj (pj J 39 31 (nI T.length)) 39 3 (nI T.length)) (ud (ud A 59 (wr (A 59) 0 T)) 41 (wr (A 41) 0 T)) s Q) := by
  have hl : (A 59).length = 1700 := hS 59
  unfold f_Model_takeDraft b_Model_takeDraft_0
  rw [md_g.1, Option.bind_some]
  unfold md
  simp only [wp_M, Option.bind_some]
  have e := m_take_l (F := F) (s := s) (Q := Q) (J := pj (pj J 39 31 (nI T.length)) 39 3 (nI T.length)) (md_S hS (T := T) (by omega)) pj_s (by rw [ud_s]; exact wr0_take (by omega)) hT F 0 (Nat.zero_le _) (by omega)
  rw [List.take_zero, wr_nil, ud_id rfl, ud_n (show (41 : Nat) ≠ 59 by decide)] at e
  exact e
end Md
