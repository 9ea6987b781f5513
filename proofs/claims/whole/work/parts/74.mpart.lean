/-! The reference reads a part of the directory. -/
def fiS (xs : List Int32) (x : Int32) : Nat → Int32
  | 0 => -1
  | n + 1 => if xs[n]? = some x then nI n else fiS xs x n
theorem fiS_neg {xs : List Int32} {x : Int32} : ∀ {n : Nat}, n < 2 ^ 30 → (0 ≤ fiS xs x n ↔ x ∈ xs.take n)
  | 0, _ => by
    rw [List.take_zero]
    exact ⟨fun q => absurd (show (0 : Int32) ≤ -1 from q) (by decide), fun q => absurd q List.not_mem_nil⟩
  | n + 1, h => by
    have ih := fiS_neg (xs := xs) (x := x) (n := n) (by omega)
    unfold fiS
    rw [List.take_succ]
    by_cases hc : xs[n]? = some x
    · rw [if_pos hc, hc]
      exact ⟨fun _ => List.mem_append_right _ (List.mem_singleton.mpr rfl), fun _ => nI_pos' (by omega)⟩
    · rw [if_neg hc, ih]
      constructor
      · exact fun q => List.mem_append_left _ q
      · intro q
        rcases List.mem_append.mp q with q | q
        · exact q
        · exfalso
          apply hc
          cases hx : xs[n]? with
          | none => rw [hx] at q; exact absurd q List.not_mem_nil
          | some y =>
            rw [hx] at q
            rw [List.mem_singleton.mp q]
section Mp
variable {J : yJ} {A : yA} {s : Nat} {Q : zW} {L : List Int32} {F k p ds de : Nat}
theorem m_find_l {x : Int32} {n : Nat} (hS : Sh A) (hn : n ≤ 8) : ∀ (m i : Nat), i ≤ n → n - i < m → l_Model_find_5 F m 39 x (nI n) (fiS (A 48) x i) (nI i) (YW J A s Q) = some (fiS (A 48) x n, YW J A s Q) := by
  have h8 : (A 48).length = 8 := hS 48
  intro m
  induction m with
  | zero => intro i _ h2; omega
  | succ m ih =>
    intro i hi hm
    show b_Model_find_5 F (l_Model_find_5 F m) 39 x (nI n) (fiS (A 48) x i) (nI i) _ = _
    unfold b_Model_find_5 b_Model_find_28
    by_cases hlt : i < n
    · rw [if_neg (nI_ge hlt (by omega))]
      simp only [wg_M, Option.bind_some]
      rw [ag_ (by decide) (by omega) (List.getElem?_eq_getElem (show i < (A 48).length by omega)), Option.bind_some, nI_1]
      have ih' := ih (i + 1) (by omega) (by omega)
      by_cases hc : (A 48)[i] = x
      · rw [if_pos hc]
        have e : fiS (A 48) x (i + 1) = nI i := by
          show (if (A 48)[i]? = some x then nI i else _) = _
          rw [List.getElem?_eq_getElem (show i < (A 48).length by omega), hc, if_pos rfl]
        rw [e] at ih'
        exact ih'
      · rw [if_neg hc]
        have e : fiS (A 48) x (i + 1) = fiS (A 48) x i := by
          show (if (A 48)[i]? = some x then nI i else _) = _
          rw [List.getElem?_eq_getElem (show i < (A 48).length by omega), if_neg (fun q => hc (Option.some.inj q))]
        rw [e] at ih'
        exact ih'
    · have : i = n := by omega
      subst this
      rw [if_pos (nI_le (by omega) (by omega))]
theorem m_find (hF : 20000 ≤ F) {x : Int32} {n : Nat} (hS : Sh A) (hn : n ≤ 8) : f_Model_find F 39 x (nI n) (YW J A s Q) = some (fiS (A 48) x n, YW J A s Q) :=
  m_find_l hS hn F 0 (Nat.zero_le _) (by omega)
theorem isE8 {m : Nat} (hm : m < 2 ^ 31) (w : zW) : f_Model_isEight F (nI m) w = some (if m = 0 ∨ m = 8 then 1 else 0, w) := by
  unfold f_Model_isEight b_Model_isEight_0 b_Model_isEight_10
  by_cases h0 : m = 0
  · rw [if_pos (show nI m = 0 by rw [h0]; rfl), if_pos (Or.inl h0)]
  · rw [if_neg (nI_ne0 (by omega) hm)]
    by_cases h8 : m = 8
    · rw [if_pos (show nI m = 8 by rw [h8]; rfl), if_pos (Or.inr h8)]
    · rw [if_neg (show ¬ nI m = 8 from fun q => h8 ((nI_eq (b := 8) hm (by decide)).mp q)), if_neg (by omega)]
theorem m_told0 (hF : 20000 ≤ F) (h : GF J A L) {q : Int32} (hp : p + 4 ≤ L.length) : f_Model_told F 39 (nI p) 0 q (YW J A s Q) = some (lN_ (nvL L p 4), YW J A s Q) := by
  unfold f_Model_told b_Model_told_0
  rw [if_pos rfl]
  simp only [wo_M, Option.bind_some]
  rw [show (4 : Int32) = nI 4 from rfl, M_number hF h hp (by decide), Option.bind_some]
theorem m_told1 (hF : 20000 ≤ F) (h : GF J A L) {q : Nat} (hp : q + 8 ≤ L.length) : f_Model_told F 39 (nI p) 1 (nI q) (YW J A s Q) = some (lN_ (nvL L q 8), YW J A s Q) := by
  have := h.2.2.2.1
  unfold f_Model_told b_Model_told_0
  rw [if_neg (by decide), if_pos (nI_pos' (by omega))]
  simp only [wo_M, Option.bind_some]
  rw [show (8 : Int32) = nI 8 from rfl, M_number hF h hp (by decide), Option.bind_some]
theorem m_toldN {x : Int32} : f_Model_told F 39 x 1 (-1) (YW J A s Q) = some (-1, YW J A s Q) := by
  unfold f_Model_told b_Model_told_0
  rw [if_neg (by decide), if_neg (by decide)]
/-- what the three arrays of numbers become, and what is asked behind it -/
def A3 (A : yA) (k : Nat) (a b c : Int32) : yA := ud (ud (ud A 53 ((A 53).set k a)) 52 ((A 52).set k b)) 54 ((A 54).set k c)
theorem A3_Sh {a b c : Int32} (hS : Sh A) : Sh (A3 A k a b c) := ((hS.ud List.length_set).ud (by rw [List.length_set, ud_n (by decide)])).ud (by rw [List.length_set, ud_n (by decide), ud_n (by decide)])
theorem A3_o {a b c : Int32} {j : Nat} (h1 : j ≠ 52) (h2 : j ≠ 53) (h3 : j ≠ 54) : A3 A k a b c j = A j := by unfold A3; rw [ud_n h3, ud_n h1, ud_n h2]
theorem m_tail0 (hS : Sh A) (hk : k < 8) {t1 t2 t3 : Int64} : b_Model_readPart_362 F 39 (nI k) t1 t2 t3 0 (YW J A s Q) = some (0, YW J (A3 A k 0 0 0) s Q) := by
  have l52 : (A 52).length = 8 := hS 52
  have l53 : (A 53).length = 8 := hS 53
  have l54 : (A 54).length = 8 := hS 54
  unfold b_Model_readPart_362 b_Model_readPart_381 b_Model_readPart_399 b_Model_readPart_417 b_Model_readPart_474
  simp only [wg_M, Option.bind_some, if_true]
  rw [as_ (by decide) (by omega) (by omega), Option.bind_some]
  simp only [wg_M, Option.bind_some]
  rw [as_ (by decide) (by rw [ud_n (by decide)]; omega) (by rw [ud_n (by decide)]; omega), Option.bind_some]
  simp only [wg_M, Option.bind_some]
  rw [as_ (by decide) (by rw [ud_n (by decide), ud_n (by decide)]; omega) (by rw [ud_n (by decide), ud_n (by decide)]; omega), Option.bind_some, ud_n (by decide), ud_n (by decide), ud_n (by decide)]
  rfl
theorem m_tail1 (hF : 20000 ≤ F) (hS : Sh A) (hk : k < 8) {sz pk of_ nm fl me : Nat} (h48 : (A 48)[k]? = some (nI nm)) (h49 : (A 49)[k]? = some (nI fl)) (h50 : (A 50)[k]? = some (nI me)) (z0 : nm < 2 ^ 31) (z1 : fl < 2 ^ 31) (z2 : me < 2 ^ 31) : b_Model_readPart_362 F 39 (nI k) (lN_ sz) (lN_ pk) (lN_ of_) 1 (YW J A s Q) = some (if 0 < nm ∧ (fl = 0 ∨ fl = 8) ∧ (me = 0 ∨ me = 8) ∧ ¬ nI nm ∈ (A 48).take k then 1 else 0, YW J (A3 A k (nI sz) (nI pk) (nI of_)) s Q) := by
  have l52 : (A 52).length = 8 := hS 52
  have l53 : (A 53).length = 8 := hS 53
  have l54 : (A 54).length = 8 := hS 54
  unfold b_Model_readPart_362 b_Model_readPart_381 b_Model_readPart_399 b_Model_readPart_417 b_Model_readPart_474
  simp only [wg_M, Option.bind_some, ln_i32]
  rw [if_neg (by decide), as_ (by decide) (by omega) (by omega), Option.bind_some]
  simp only [wg_M, Option.bind_some]
  rw [if_neg (by decide), as_ (by decide) (by rw [ud_n (by decide)]; omega) (by rw [ud_n (by decide)]; omega), Option.bind_some]
  simp only [wg_M, Option.bind_some]
  rw [if_neg (by decide), as_ (by decide) (by rw [ud_n (by decide), ud_n (by decide)]; omega) (by rw [ud_n (by decide), ud_n (by decide)]; omega), Option.bind_some, ud_n (by decide), ud_n (by decide), ud_n (by decide), if_neg (by decide)]
  have eA : ud (ud (ud A 53 ((A 53).set k (nI sz))) 52 ((A 52).set k (nI pk))) 54 ((A 54).set k (nI of_)) = A3 A k (nI sz) (nI pk) (nI of_) := rfl
  rw [eA]
  have hS3 : Sh (A3 A k (nI sz) (nI pk) (nI of_)) := A3_Sh hS
  have e48 : A3 A k (nI sz) (nI pk) (nI of_) 48 = A 48 := A3_o (by decide) (by decide) (by decide)
  have e49 : A3 A k (nI sz) (nI pk) (nI of_) 49 = A 49 := A3_o (by decide) (by decide) (by decide)
  have e50 : A3 A k (nI sz) (nI pk) (nI of_) 50 = A 50 := A3_o (by decide) (by decide) (by decide)
  simp only [wg_M, Option.bind_some]
  rw [ag_ (by decide) (by omega) (by rw [e48]; exact h48), Option.bind_some]
  by_cases c0 : 0 < nm
  · rw [if_neg (nI_nle c0 z0), ag_ (by decide) (by omega) (by rw [e49]; exact h49), Option.bind_some, isE8 z1, Option.bind_some]
    simp only []
    by_cases c1 : fl = 0 ∨ fl = 8
    · rw [if_pos c1, if_neg (show ¬ (1 : Int32) = 0 by decide)]
      simp only [wg_M, Option.bind_some]
      rw [ag_ (by decide) (by omega) (by rw [e50]; exact h50), Option.bind_some, isE8 z2, Option.bind_some]
      simp only []
      by_cases c2 : me = 0 ∨ me = 8
      · rw [if_pos c2, if_neg (show ¬ (1 : Int32) = 0 by decide)]
        simp only [wg_M, wo_M, Option.bind_some]
        rw [ag_ (by decide) (by omega) (by rw [e48]; exact h48), Option.bind_some, m_find hF hS3 (by omega), Option.bind_some, e48]
        simp only []
        by_cases c3 : nI nm ∈ (A 48).take k
        · rw [if_pos ((fiS_neg (by omega)).mpr c3), if_neg (fun q => q.2.2.2 c3)]
        · rw [if_neg (fun q => c3 ((fiS_neg (by omega)).mp q)), if_pos ⟨c0, c1, c2, c3⟩]
      · rw [if_neg c2, if_pos rfl, if_neg (fun q => c2 q.2.2.1)]
    · rw [if_neg c1, if_pos rfl, if_neg (fun q => c1 q.2.1)]
  · rw [if_pos (show nI nm ≤ 0 from nI_le (a := nm) (b := 0) (by omega) (by decide)), if_neg (fun q => c0 q.1)]
end Mp
