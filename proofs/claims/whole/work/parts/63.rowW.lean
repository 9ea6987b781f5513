/-! Rows of the class, over YW. -/
def isR (r a : Nat) : Prop := (r = 1 ∧ a = 2) ∨ (r = 3 ∧ a = 4) ∨ (r = 5 ∧ a = 6) ∨ (r = 7 ∧ a = 8) ∨ (r = 36 ∧ a = 37)
theorem pj_s {J : yJ} {o k : Nat} {x : Int32} : pj J o k x o k = x := by rw [pj_at, if_pos rfl, if_pos rfl]
theorem pj_o {J : yJ} {o k p q : Nat} {x : Int32} (h : p ≠ o) : pj J o k x p q = J p q := by rw [pj_at, if_neg h]
theorem pj_k {J : yJ} {o k p q : Nat} {x : Int32} (h : q ≠ k) : pj J o k x p q = J p q := by
  rw [pj_at, if_neg h]
  exact ite_self _
theorem ud_s {α : Type} {f : Nat → α} {k : Nat} {x : α} : ud f k x k = x := by rw [ud_at, if_pos rfl]
theorem ud_n {α : Type} {f : Nat → α} {k j : Nat} {x : α} (h : j ≠ k) : ud f k x j = f j := by rw [ud_at, if_neg h]
theorem pj_row {J : yJ} {o k p : Nat} {x : Int32} (h : p ≠ o) : pj J o k x p = J p := by
  funext q
  exact pj_o h
theorem pj_comm {J : yJ} {o k p q : Nat} {x y : Int32} (h : o ≠ p ∨ k ≠ q) : pj (pj J o k x) p q y = pj (pj J p q y) o k x := by
  funext a b
  simp only [pj_at]
  by_cases h1 : a = p
  · by_cases h2 : a = o
    · have hk : k ≠ q := h.resolve_left (fun n => n (h2.symm.trans h1))
      simp only [if_pos h1, if_pos h2]
      by_cases h3 : b = q
      · simp only [if_pos h3, if_neg (fun e : b = k => hk (e.symm.trans h3))]
      · simp only [if_neg h3]
    · simp only [if_pos h1, if_neg h2]
  · simp only [if_neg h1]
theorem ud_comm {α : Type} {f : Nat → α} {k j : Nat} {x y : α} (h : k ≠ j) : ud (ud f k x) j y = ud (ud f j y) k x := by
  funext a
  simp only [ud_at]
  by_cases h1 : a = j <;> by_cases h2 : a = k <;> simp [h1, h2] <;> omega
section RW
variable {J : yJ} {A : yA} {s : Nat} {Q : zW} {r a n m : Nat} {b : Int32} {F : Nat} {X : List Int32}
theorem R_o (h : isR r a) : zobj (YW J A s Q) r 0 = some [.inr (some a), .inl (J r 1), .inl (J r 2)] := by
  rcases h with ⟨rfl, rfl⟩ | ⟨rfl, rfl⟩ | ⟨rfl, rfl⟩ | ⟨rfl, rfl⟩ | ⟨rfl, rfl⟩ <;> rfl
theorem R_1 (h : isR r a) : getI (YW J A s Q) r 0 1 = some (J r 1) := getI_of (R_o h) rfl
theorem R_2 (h : isR r a) : getI (YW J A s Q) r 0 2 = some (J r 2) := getI_of (R_o h) rfl
theorem R_a (h : isR r a) : getR (YW J A s Q) r 0 0 = some a := getR_of (R_o h) rfl
theorem R_p1 (h : isR r a) (x : Int32) : putI (YW J A s Q) r 0 1 x = some (YW (pj J r 1 x) A s Q) := by
  rcases h with ⟨rfl, rfl⟩ | ⟨rfl, rfl⟩ | ⟨rfl, rfl⟩ | ⟨rfl, rfl⟩ | ⟨rfl, rfl⟩ <;> rfl
theorem R_p2 (h : isR r a) (x : Int32) : putI (YW J A s Q) r 0 2 x = some (YW (pj J r 2 x) A s Q) := by
  rcases h with ⟨rfl, rfl⟩ | ⟨rfl, rfl⟩ | ⟨rfl, rfl⟩ | ⟨rfl, rfl⟩ | ⟨rfl, rfl⟩ <;> rfl
theorem R_ne (h : isR r a) : aL a ≠ 0 ∧ aL a ≤ 1600 ∧ r < 39 ∧ a < 40 := by
  rcases h with ⟨rfl, rfl⟩ | ⟨rfl, rfl⟩ | ⟨rfl, rfl⟩ | ⟨rfl, rfl⟩ | ⟨rfl, rfl⟩ <;> decide
theorem R_rw {C : List Int32} (h : isR r a) (hS : Sh A) (h1 : J r 1 = nI C.length) (h2 : (A a).take C.length = C) : rw_ (YW J A s Q) r a (aL a) C (J r 2) := by
  have hn := R_ne h
  have hl := hS a
  refine ⟨A a, ⟨?_, wi_a _ _ _ _ hn.1, ?_, by omega⟩, h2, hl⟩
  · rw [R_o h, h1]; rfl
  · have := congrArg List.length h2
    rw [List.length_take] at this
    omega
theorem W_append (h : isR r a) (hS : Sh A) (h1 : J r 1 = nI n) (hc : n < aL a) : f_Row_append F r b (YW J A s Q) = some ((), YW (pj J r 1 (nI (n + 1))) (ud A a ((A a).set n b)) s Q) := by
  have hn := R_ne h
  have hl := hS a
  unfold f_Row_append b_Row_append_0
  rw [R_1 h, Option.bind_some, R_a h, Option.bind_some, al_ hn.1, Option.bind_some, h1, if_neg (nI_ge (by omega) (by omega)), Option.bind_some, Option.bind_some, as_ hn.1 (by omega) (by omega), Option.bind_some, R_1 h, Option.bind_some, R_p1 h, Option.bind_some, h1, nI_1]
theorem W_append_full (h : isR r a) (hS : Sh A) (h1 : J r 1 = nI n) (hc : n = aL a) : f_Row_append F r b (YW J A s Q) = some ((), YW (pj J r 2 1) A s Q) := by
  have hn := R_ne h
  have hl := hS a
  unfold f_Row_append b_Row_append_0
  rw [R_1 h, Option.bind_some, R_a h, Option.bind_some, al_ hn.1, Option.bind_some, h1, if_pos (nI_le (by omega) (by omega)), R_p2 h, Option.bind_some]
theorem W_empty (h : isR r a) : f_Row_empty F r (YW J A s Q) = some ((), YW (pj (pj J r 1 0) r 2 0) A s Q) := by
  unfold f_Row_empty b_Row_empty_0
  rw [R_p1 h, Option.bind_some, R_p2 h, Option.bind_some]
theorem W_room (h : isR r a) (hS : Sh A) (h1 : J r 1 = nI n) (hn : n ≤ aL a) (hm : m < 2 ^ 30) : f_Row_hasRoom F r (nI m) (YW J A s Q) = some (if n + m ≤ aL a then 1 else 0, YW J A s Q) := by
  have ha := R_ne h
  have hl := hS a
  unfold f_Row_hasRoom b_Row_hasRoom_0
  rw [R_a h, Option.bind_some, al_ ha.1, Option.bind_some, R_1 h, Option.bind_some, h1, hl, pk_sub hn]
  by_cases hc : n + m ≤ aL a
  · rw [if_neg (nI_nlt (by omega) (by omega)), if_pos hc]
  · rw [if_pos (nI_lt (by omega) (by omega)), if_neg hc]
/-- the row r with X behind its first n -/
def ra (J : yJ) (A : yA) (s : Nat) (Q : zW) (r a n : Nat) (X : List Int32) : zW := YW (pj J r 1 (nI (n + X.length))) (ud A a (wr (A a) n X)) s Q
theorem ra_nil (h1 : J r 1 = nI n) : ra J A s Q r a n [] = YW J A s Q := by
  unfold ra
  rw [wr_nil, ud_id rfl]
  rw [pj_id (by simpa using h1)]
theorem ra_append (h : isR r a) (hS : Sh A) (hc : n + X.length < aL a) : f_Row_append F r b (ra J A s Q r a n X) = some ((), ra J A s Q r a n (X ++ [b])) := by
  have hl := hS a
  unfold ra
  rw [W_append h (hS.ud (wr_len (by omega))) pj_s hc, ud_s, pj_pj, ud_ud, wr_set (by rw [wr_len (by omega)]; omega), wr_wr (by rw [List.length_singleton]; omega), List.length_append, List.length_singleton, Nat.add_assoc]
theorem ra_o (h : isR r a) : ∃ fs, zobj (ra J A s Q r a n X) r 0 = some fs := ⟨_, R_o h⟩
theorem ra_num_l (h : isR r a) (hS : Sh A) (x : Int64) (t : Nat) : ∀ (q k : Nat) (X : List Int32), k ≤ t → t - k < q → t < 2 ^ 31 → n + X.length + (t - k) ≤ aL a → l_Row_appendNumber_3 F q r x (nI t) (nI k) (ra J A s Q r a n X) = some ((), ra J A s Q r a n (X ++ lbs x k t)) := by
  intro q
  induction q with
  | zero => intro k X _ h2; omega
  | succ q ih =>
    intro k X h1 h2 ht h3
    show b_Row_appendNumber_3 F (l_Row_appendNumber_3 F q) r x (nI t) (nI k) (ra J A s Q r a n X) = _
    unfold b_Row_appendNumber_3
    by_cases hk : k < t
    · obtain ⟨fs, hf⟩ := ra_o (J := J) (A := A) (s := s) (Q := Q) (n := n) (X := X) h
      rw [if_neg (nI_ge hk ht), hf, Option.bind_some]
      show (f_Row_append F r (lb x k) _).bind _ = _
      rw [ra_append h hS (by omega), Option.bind_some]
      show l_Row_appendNumber_3 F q r x (nI t) (nI k + 1) _ = _
      rw [nI_1, ih (k + 1) _ (by omega) (by omega) ht (by rw [List.length_append, List.length_singleton]; omega), lbs_cons hk, List.append_assoc]
      rfl
    · rw [if_pos (nI_le (by omega) (by omega))]
      have : t - k = 0 := by omega
      unfold lbs
      rw [this]
      simp
theorem ra_num (hF : 20000 ≤ F) (h : isR r a) (hS : Sh A) (x : Int64) {t : Nat} (hc : n + X.length + t ≤ aL a) : f_Row_appendNumber F r x (nI t) (ra J A s Q r a n X) = some ((), ra J A s Q r a n (X ++ lbs x 0 t)) := by
  have := R_ne h
  exact ra_num_l h hS x t F 0 X (Nat.zero_le _) (by omega) (by omega) (by omega)
theorem ra_high_l (h : isR r a) (hS : Sh A) (x : Int64) : ∀ (t q : Nat) (X : List Int32), t < q → t < 2 ^ 31 → n + X.length + t ≤ aL a → l_Row_appendHighestFirst_5 F q r x (nI t - 1) (ra J A s Q r a n X) = some ((), ra J A s Q r a n (X ++ hbs x t)) := by
  intro t
  induction t with
  | zero =>
    intro q X hq _ _
    obtain ⟨q, rfl⟩ : ∃ q', q = q' + 1 := ⟨q - 1, by omega⟩
    show b_Row_appendHighestFirst_5 F (l_Row_appendHighestFirst_5 F q) r x (nI 0 - 1) _ = _
    unfold b_Row_appendHighestFirst_5
    rw [if_pos (by decide)]
    simp [hbs]
  | succ t ih =>
    intro q X hq ht hc
    obtain ⟨q, rfl⟩ : ∃ q', q = q' + 1 := ⟨q - 1, by omega⟩
    show b_Row_appendHighestFirst_5 F (l_Row_appendHighestFirst_5 F q) r x (nI (t + 1) - 1) _ = _
    unfold b_Row_appendHighestFirst_5
    obtain ⟨fs, hf⟩ := ra_o (J := J) (A := A) (s := s) (Q := Q) (n := n) (X := X) h
    rw [nI_pred, if_neg (nI_pos (by omega)), hf, Option.bind_some]
    show (f_Row_append F r (lb x t) _).bind _ = _
    rw [ra_append h hS (by omega), Option.bind_some, ← Int32.sub_eq_add_neg]
    show l_Row_appendHighestFirst_5 F q r x (nI t - 1) _ = _
    rw [ih q _ (by omega) (by omega) (by rw [List.length_append, List.length_singleton]; omega), hbs_succ, List.append_assoc]
    rfl
theorem ra_high (hF : 20000 ≤ F) (h : isR r a) (hS : Sh A) (x : Int64) {t : Nat} (hc : n + X.length + t ≤ aL a) : f_Row_appendHighestFirst F r x (nI t) (ra J A s Q r a n X) = some ((), ra J A s Q r a n (X ++ hbs x t)) := by
  have := R_ne h
  exact ra_high_l h hS x t F X (by omega) (by omega) hc
theorem zcpy_wr {xs ys : List Int32} {p d k : Nat} (h : p + k ≤ xs.length) : zcpy xs ys p d k = wr ys d ((xs.drop p).take k) := by
  unfold zcpy wr
  rw [List.length_take, List.length_drop, Nat.min_eq_left (by omega)]
theorem W_part {r2 a2 p q : Nat} (h : isR r a) (h2 : isR r2 a2) (hS : Sh A) (h1 : J r 1 = nI n) (hn : n ≤ aL a) (h3 : J r2 1 = nI m) (hm : m ≤ aL a2) (hp : p ≤ q) (hq : q ≤ m) (hc : n + (q - p) ≤ aL a) : f_Row_appendPart F r r2 (nI p) (nI q) (YW J A s Q) = some ((), ra J A s Q r a n (((A a2).drop p).take (q - p))) := by
  have ha := R_ne h
  have ha2 := R_ne h2
  have hl := hS a
  have hl2 := hS a2
  unfold f_Row_appendPart b_Row_appendPart_0
  rw [if_neg (nI_pos (by omega)), if_neg (nI_nlt hp (by omega)), R_1 h2, Option.bind_some, h3, if_neg (nI_nlt hq (by omega)), R_o h, Option.bind_some, pk_sub hp, W_room h hS h1 hn (by omega), if_pos hc, Option.bind_some]
  simp only []
  rw [if_neg (by decide), R_a h2, Option.bind_some, R_a h, Option.bind_some, R_1 h, Option.bind_some, h1]
  have e : acopy (YW J A s Q) a2 (nI p) a (nI n) (nI (q - p)) = some (YW J (ud A a (wr (A a) n (((A a2).drop p).take (q - p)))) s Q) := by
    unfold acopy
    rw [wi_a _ _ _ _ ha2.1, Option.bind_some, wi_a _ _ _ _ ha.1, Option.bind_some, nI_clamp (by omega), nI_clamp (by omega), nI_clamp (by omega), if_neg, zcpy_wr (by omega), ws_a _ _ _ _ ha.1]
    rintro (q | q | q | q | q)
    · exact nI_pos (by omega) q
    · exact nI_pos (by omega) q
    · exact nI_pos (by omega) q
    · omega
    · omega
  rw [e, Option.bind_some, R_1 h, Option.bind_some, h1, nI_add, R_p1 h, Option.bind_some]
  unfold ra
  rw [List.length_take, List.length_drop, Nat.min_eq_left (by omega)]
theorem W_part_full {r2 a2 p q : Nat} (h : isR r a) (h2 : isR r2 a2) (hS : Sh A) (h1 : J r 1 = nI n) (hn : n ≤ aL a) (h3 : J r2 1 = nI m) (hm : m ≤ aL a2) (hp : p ≤ q) (hq : q ≤ m) (hc : ¬ n + (q - p) ≤ aL a) : f_Row_appendPart F r r2 (nI p) (nI q) (YW J A s Q) = some ((), YW (pj J r 2 1) A s Q) := by
  have ha := R_ne h
  have ha2 := R_ne h2
  unfold f_Row_appendPart b_Row_appendPart_0
  rw [if_neg (nI_pos (by omega)), if_neg (nI_nlt hp (by omega)), R_1 h2, Option.bind_some, h3, if_neg (nI_nlt hq (by omega)), R_o h, Option.bind_some, pk_sub hp, W_room h hS h1 hn (by omega), if_neg hc, Option.bind_some]
  simp only []
  rw [if_pos (by decide)]
  unfold b_Row_appendPart_27
  rw [R_p2 h, Option.bind_some]
theorem W_become {r2 a2 : Nat} {C : List Int32} (h : isR r a) (h2 : isR r2 a2) (hne : r2 ≠ r) (hS : Sh A) (h3 : J r2 1 = nI C.length) (h4 : (A a2).take C.length = C) (hc : C.length ≤ aL a) : f_Row_become F r r2 (YW J A s Q) = some ((), YW (pj (pj J r 2 0) r 1 (nI C.length)) (ud A a (wr (A a) 0 C)) s Q) := by
  have ha2 := R_ne h2
  have hm : C.length ≤ aL a2 := by
    have h5 := congrArg List.length h4
    have h6 := hS a2
    rw [List.length_take] at h5
    omega
  unfold f_Row_become b_Row_become_0
  rw [R_o h, Option.bind_some, W_empty h, Option.bind_some]
  simp only []
  rw [R_1 h2, Option.bind_some, R_o h, Option.bind_some]
  have e3 : pj (pj J r 1 0) r 2 0 r2 1 = nI C.length := by rw [pj_o hne, pj_o hne, h3]
  have e4 := W_part (J := pj (pj J r 1 0) r 2 0) (F := F) (s := s) (Q := Q) (n := 0) (p := 0) h h2 hS (by rw [pj_k (by decide), pj_s]; rfl) (Nat.zero_le _) e3 hm (Nat.zero_le _) (Nat.le_refl _) (by omega)
  rw [show (nI 0 : Int32) = 0 from rfl] at e4
  rw [e3, e4, Option.bind_some]
  unfold ra
  rw [List.drop_zero, Nat.sub_zero, h4, Nat.zero_add, pj_comm (o := r) (k := 1) (p := r) (q := 2) (Or.inr (by decide)), pj_pj]
end RW
