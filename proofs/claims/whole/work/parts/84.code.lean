/-! Codes of words by lengths: the rule for codes, over lists of numbers. -/
def kC (ls : List Nat) (l : Nat) : Nat := if l = 0 then 0 else ls.count l
def kF (ls : List Nat) : Nat → Nat
  | 0 => 0
  | l + 1 => 2 * (kF ls l + kC ls l)
def kB (ls : List Nat) : Nat → Nat
  | 0 => 0
  | l + 1 => kB ls l + kC ls l
def kR (ls : List Nat) (k : Nat) : Nat := (ls.take k).count (ls.getD k 0)
def kW (ls : List Nat) (k : Nat) : Nat := kF ls (ls.getD k 0) + kR ls k
def kS (ls : List Nat) : Nat → Nat
  | 0 => 0
  | l + 1 => kS ls l + kC ls (l + 1) * 2 ^ (14 - l)
theorem bf_cP (ls : List Nat) (l : Nat) : kB ls l = ls.countP (fun x => decide (0 < x) && decide (x < l)) := by
  induction l with
  | zero =>
    rw [List.countP_eq_zero.mpr]
    · rfl
    · intro x _; simp
  | succ l ih =>
    show kB ls l + kC ls l = _
    rw [ih]
    unfold kC
    by_cases h : l = 0
    · subst h
      rw [if_pos rfl, Nat.add_zero]
      congr 1
      funext x
      by_cases h0 : 0 < x
      · have h1 : ¬ x < 1 := by omega
        simp [h1]
      · simp [h0]
    · rw [if_neg h]
      clear ih
      induction ls with
      | nil => rfl
      | cons a t ih =>
        rw [List.countP_cons, List.countP_cons, List.count_cons]
        have : (if (decide (0 < a) && decide (a < l)) = true then 1 else 0) + (if (a == l) = true then 1 else 0) = (if (decide (0 < a) && decide (a < l + 1)) = true then 1 else 0) := by
          by_cases e : a = l
          · subst e
            have : 0 < a := by omega
            simp [this]
          · by_cases h0 : 0 < a
            · by_cases h1 : a < l
              · have h2 : a < l + 1 := by omega
                simp [e, h0, h1, h2]
              · have h2 : ¬ a < l + 1 := by omega
                simp [e, h1, h2]
            · simp [e, h0]
        omega
theorem bf_le (ls : List Nat) (l : Nat) : kB ls l ≤ ls.length := by rw [bf_cP]; exact List.countP_le_length
theorem bf_mono (ls : List Nat) {a b : Nat} (h : a ≤ b) : kB ls a ≤ kB ls b := by
  induction h with
  | refl => exact Nat.le_refl _
  | step _ ih => exact Nat.le_trans ih (Nat.le_add_right _ _)
theorem fs_le (ls : List Nat) (l : Nat) : kF ls (l + 1) ≤ 2 ^ l * kB ls (l + 1) := by
  induction l with
  | zero => show 2 * (0 + kC ls 0) ≤ _; unfold kC; simp
  | succ l ih =>
    show 2 * (kF ls (l + 1) + kC ls (l + 1)) ≤ 2 ^ (l + 1) * (kB ls (l + 1) + kC ls (l + 1))
    have h1 : kC ls (l + 1) ≤ 2 ^ l * kC ls (l + 1) := Nat.le_mul_of_pos_left _ (Nat.two_pow_pos l)
    have h2 : 2 ^ (l + 1) * (kB ls (l + 1) + kC ls (l + 1)) = 2 * (2 ^ l * kB ls (l + 1) + 2 ^ l * kC ls (l + 1)) := by
      rw [Nat.pow_succ, Nat.mul_comm (2 ^ l) 2, Nat.mul_assoc, Nat.mul_add (2 ^ l)]
    omega
theorem nx_le (ls : List Nat) {l : Nat} (h : l ≤ 15) (hn : ls.length ≤ 339) : kF ls l + kC ls l ≤ 2 ^ 14 * 339 := by
  cases l with
  | zero => show 0 + kC ls 0 ≤ _; unfold kC; simp
  | succ l =>
    have h1 := fs_le ls (l + 1)
    have h2 := bf_le ls (l + 1 + 1)
    have h3 : 2 ^ (l + 1) * kB ls (l + 1 + 1) ≤ 2 ^ (l + 1) * 339 := Nat.mul_le_mul_left _ (Nat.le_trans h2 hn)
    have h4 : kF ls (l + 1 + 1) = 2 * (kF ls (l + 1) + kC ls (l + 1)) := rfl
    have h5 : 2 ^ (l + 1) * 339 ≤ 2 ^ 15 * 339 := Nat.mul_le_mul_right _ (Nat.pow_le_pow_right (by decide) h)
    have h6 : (2 : Nat) ^ 15 = 2 * 2 ^ 14 := by decide
    rw [h6, Nat.mul_assoc] at h5
    omega
theorem cn_pos {ls : List Nat} {l : Nat} (h : 0 < l) : kC ls l = ls.count l := by unfold kC; rw [if_neg (by omega)]
theorem count_take_le (ls : List Nat) (k a : Nat) : (ls.take k).count a ≤ ls.count a := (List.take_sublist k ls).count_le a
theorem count_take_succ (ls : List Nat) {k : Nat} (h : k < ls.length) (a : Nat) : (ls.take (k + 1)).count a = (ls.take k).count a + if ls.getD k 0 = a then 1 else 0 := by
  rw [List.take_add_one, List.getElem?_eq_getElem h, List.count_append]
  have e : ls.getD k 0 = ls[k] := by rw [List.getD_eq_getElem?_getD, List.getElem?_eq_getElem h]; rfl
  rw [e]
  show _ + [ls[k]].count a = _
  rw [List.count_singleton]
  by_cases h : ls[k] = a
  · rw [if_pos h, if_pos (by simp [h])]
  · rw [if_neg h, if_neg (by simp [h])]
theorem rk_lt {ls : List Nat} {k : Nat} (h : k < ls.length) (h0 : 0 < ls.getD k 0) : kR ls k < kC ls (ls.getD k 0) := by
  have h1 := count_take_succ ls h (ls.getD k 0)
  have h2 := count_take_le ls (k + 1) (ls.getD k 0)
  rw [if_pos rfl] at h1
  rw [cn_pos h0]
  unfold kR
  omega
theorem rk_inj {ls : List Nat} {a b : Nat} (ha : a < ls.length) (hb : b < ls.length) (h1 : ls.getD a 0 = ls.getD b 0) (h2 : kR ls a = kR ls b) : a = b := by
  have key : ∀ {a b : Nat}, a < b → b < ls.length → ls.getD a 0 = ls.getD b 0 → kR ls a < kR ls b := by
    intro a b hab hb h1
    have h3 := count_take_succ ls (show a < ls.length by omega) (ls.getD a 0)
    rw [if_pos rfl] at h3
    have h4 : (ls.take (a + 1)).count (ls.getD a 0) ≤ (ls.take b).count (ls.getD a 0) := by
      have : ls.take (a + 1) = (ls.take b).take (a + 1) := by rw [List.take_take, Nat.min_eq_left (by omega)]
      rw [this]
      exact count_take_le _ _ _
    unfold kR
    rw [← h1]
    omega
  by_cases h : a < b
  · exact absurd h2 (Nat.ne_of_lt (key h hb h1))
  · by_cases h' : b < a
    · exact absurd h2.symm (Nat.ne_of_lt (key h' ha h1.symm))
    · omega
theorem rk_onto {ls : List Nat} {l j : Nat} (h : j < ls.count l) : ∃ k, k < ls.length ∧ ls.getD k 0 = l ∧ kR ls k = j := by
  have key : ∀ m, m ≤ ls.length → j < (ls.take m).count l → ∃ k, k < ls.length ∧ ls.getD k 0 = l ∧ kR ls k = j := by
    intro m
    induction m with
    | zero => intro _ h; simp at h
    | succ m ih =>
      intro hm hj
      rw [count_take_succ ls (by omega) l] at hj
      by_cases hlt : j < (ls.take m).count l
      · exact ih (by omega) hlt
      · by_cases e : ls.getD m 0 = l
        · rw [if_pos e] at hj
          refine ⟨m, by omega, e, ?_⟩
          unfold kR
          rw [e]
          omega
        · rw [if_neg e] at hj
          omega
  exact key ls.length (Nat.le_refl _) (by rw [List.take_length]; exact h)
/-- the first symbol whose word is v, of l bits -/
def kN (ls : List Nat) (l v : Nat) : Nat → Nat → Option Nat
  | 0, _ => none
  | m + 1, k => if ls.getD k 0 = l ∧ kW ls k = v then some k else kN ls l v m (k + 1)
theorem fn_some {ls : List Nat} {l v j : Nat} (h1 : ls.getD j 0 = l) (h2 : kW ls j = v) (hj : j < ls.length) (hl : 0 < l) : ∀ m k, k ≤ j → j < k + m → kN ls l v m k = some j := by
  intro m
  induction m with
  | zero => intro k _ _; omega
  | succ m ih =>
    intro k hk hm
    show (if _ then some k else _) = _
    by_cases e : k = j
    · subst e; rw [if_pos ⟨h1, h2⟩]
    · rw [if_neg, ih (k + 1) (by omega) (by omega)]
      rintro ⟨q1, q2⟩
      apply e
      refine rk_inj (by omega) hj (by rw [q1, h1]) ?_
      unfold kW at q2 h2
      rw [q1] at q2
      rw [h1] at h2
      omega
theorem fn_none {ls : List Nat} {l v : Nat} (h : ∀ k, k < ls.length → ls.getD k 0 = l → kW ls k ≠ v) : ∀ m k, k + m ≤ ls.length → kN ls l v m k = none := by
  intro m
  induction m with
  | zero => intro k _; rfl
  | succ m ih =>
    intro k hm
    show (if _ then some k else _) = _
    rw [if_neg (fun q => h k (by omega) q.1 q.2), ih (k + 1) (by omega)]
theorem fn_hit {ls : List Nat} {l v : Nat} (hl : 0 < l) (h1 : kF ls l ≤ v) (h2 : v - kF ls l < kC ls l) : ∃ k, k < ls.length ∧ ls.getD k 0 = l ∧ kR ls k = v - kF ls l ∧ kN ls l v ls.length 0 = some k := by
  rw [cn_pos hl] at h2
  obtain ⟨k, a, b, c⟩ := rk_onto h2
  refine ⟨k, a, b, c, fn_some b ?_ a hl _ _ (Nat.zero_le _) (by omega)⟩
  unfold kW
  rw [b]
  omega
theorem fn_miss {ls : List Nat} {l v : Nat} (hl : 0 < l) (h2 : kF ls l + kC ls l ≤ v) : kN ls l v ls.length 0 = none := by
  refine fn_none ?_ _ _ (by omega)
  intro k hk e
  have := rk_lt hk (by rw [e]; exact hl)
  unfold kW
  rw [e] at this ⊢
  omega
theorem fn_lt {ls : List Nat} {l v j : Nat} : ∀ m k, k + m ≤ ls.length → kN ls l v m k = some j → j < ls.length := by
  intro m
  induction m with
  | zero => intro k _ h; cases h
  | succ m ih =>
    intro k hm h
    rw [kN] at h
    split at h
    · cases h; omega
    · exact ih (k + 1) (by omega) h
/-! whether there are more words than there can be -/
def kI (ls : List Nat) : Nat → Int
  | 0 => 1
  | l + 1 => 2 * kI ls l - kC ls (l + 1)
theorem fr_sm (ls : List Nat) {l : Nat} (h : l ≤ 15) : kI ls l * 2 ^ (15 - l) + kS ls l = 32768 := by
  induction l with
  | zero => show (1 : Int) * 2 ^ 15 + ((0 : Nat) : Int) = 32768; decide
  | succ l ih =>
    have h1 := ih (by omega)
    show (2 * kI ls l - kC ls (l + 1)) * 2 ^ (15 - (l + 1)) + ((kS ls l + kC ls (l + 1) * 2 ^ (14 - l) : Nat) : Int) = 32768
    rw [show 15 - l = (14 - l) + 1 by omega, Int.pow_succ] at h1
    rw [show 15 - (l + 1) = 14 - l by omega]
    push_cast
    rw [← h1, Int.sub_mul]
    generalize (2 : Int) ^ (14 - l) = X
    have e : kI ls l * (X * 2) = 2 * kI ls l * X := by
      rw [Int.mul_comm X 2, ← Int.mul_assoc, Int.mul_comm (kI ls l) 2]
    rw [e]
    omega
theorem sm_mono (ls : List Nat) {a b : Nat} (h : a ≤ b) : kS ls a ≤ kS ls b := by
  induction h with
  | refl => exact Nat.le_refl _
  | step _ ih => exact Nat.le_trans ih (Nat.le_add_right _ _)
theorem fr_iff (ls : List Nat) {l : Nat} (h : l ≤ 15) : 0 ≤ kI ls l ↔ kS ls l ≤ 32768 := by
  have h1 := fr_sm ls h
  have h2 : (0 : Int) < 2 ^ (15 - l) := Int.pow_pos (by decide)
  constructor
  · intro q
    have := Int.mul_nonneg q (Int.le_of_lt h2)
    omega
  · intro q
    by_cases e : 0 ≤ kI ls l
    · exact e
    · have := Int.mul_neg_of_neg_of_pos (show kI ls l < 0 by omega) h2
      omega
theorem fr_le (ls : List Nat) : ∀ l, kI ls l ≤ 2 ^ l := by
  intro l
  induction l with
  | zero => exact Int.le_refl _
  | succ l ih =>
    show 2 * kI ls l - kC ls (l + 1) ≤ _
    rw [Int.pow_succ]
    omega
theorem sm_le (ls : List Nat) : ∀ l, l ≤ 15 → kS ls l ≤ 2 ^ 14 * kB ls (l + 1) := by
  intro l
  induction l with
  | zero => intro _; exact Nat.zero_le _
  | succ l ih =>
    intro h
    show kS ls l + kC ls (l + 1) * 2 ^ (14 - l) ≤ 2 ^ 14 * (kB ls (l + 1) + kC ls (l + 1))
    have h1 : 2 ^ (14 - l) ≤ 2 ^ 14 := Nat.pow_le_pow_right (by decide) (by omega)
    have h2 : kC ls (l + 1) * 2 ^ (14 - l) ≤ kC ls (l + 1) * 2 ^ 14 := Nat.mul_le_mul_left _ h1
    have h3 := ih (by omega)
    rw [Nat.mul_add, Nat.mul_comm (2 ^ 14) (kC ls (l + 1))]
    omega
