/-! Packing: bits into bytes; what is written, by both. -/
def bvF (f : Nat → Nat) : Nat → Nat
  | 0 => 0
  | n + 1 => bvF f n + f n * 2 ^ n
theorem bvF_congr {f g : Nat → Nat} : ∀ {n : Nat}, (∀ i, i < n → f i = g i) → bvF f n = bvF g n
  | 0, _ => rfl
  | n + 1, h => by
    show bvF f n + f n * 2 ^ n = bvF g n + g n * 2 ^ n
    rw [bvF_congr (fun i hi => h i (by omega)), h n (by omega)]
theorem bvF_zero {f : Nat → Nat} {n : Nat} : ∀ {m : Nat}, n ≤ m → (∀ i, n ≤ i → i < m → f i = 0) → bvF f m = bvF f n
  | 0, h, _ => by rw [show n = 0 by omega]
  | m + 1, h, hz => by
    by_cases e : n = m + 1
    · rw [e]
    · show bvF f m + f m * 2 ^ m = bvF f n
      rw [hz m (by omega) (by omega), Nat.zero_mul, Nat.add_zero]
      exact bvF_zero (by omega) (fun i a b => hz i a (by omega))
theorem bvF_lt {f : Nat → Nat} : ∀ {n : Nat}, (∀ i, i < n → f i < 2) → bvF f n < 2 ^ n
  | 0, _ => by show 0 < 1; decide
  | n + 1, h => by
    have h1 := bvF_lt (n := n) (fun i hi => h i (by omega))
    have h2 : f n * 2 ^ n ≤ 1 * 2 ^ n := Nat.mul_le_mul_right _ (by have := h n (by omega); omega)
    show bvF f n + f n * 2 ^ n < 2 ^ (n + 1)
    rw [Nat.pow_succ]
    omega
def byS (T : List Nat) (j : Nat) : Nat := bvF (fun i => T.getD (8 * j + i) 0) 8
def byL (T : List Nat) (n : Nat) : List Int32 := (List.range n).map fun j => nI (byS T j)
def is01 (T : List Nat) : Prop := ∀ b ∈ T, b < 2
section By
variable {T : List Nat} {b : Nat}
theorem getD_in {i : Nat} (h : i < T.length) : (T ++ [b]).getD i 0 = T.getD i 0 := by
  rw [List.getD_eq_getElem?_getD, List.getD_eq_getElem?_getD, List.getElem?_append_left h]
theorem getD_at : (T ++ [b]).getD T.length 0 = b := by
  rw [List.getD_eq_getElem?_getD, List.getElem?_append_right (Nat.le_refl _), Nat.sub_self]
  rfl
theorem getD_out {T : List Nat} {i : Nat} (h : T.length ≤ i) : T.getD i 0 = 0 := by
  rw [List.getD_eq_getElem?_getD, List.getElem?_eq_none h]
  rfl
theorem is01.g (h : is01 T) (i : Nat) : T.getD i 0 < 2 := by
  rw [List.getD_eq_getElem?_getD]
  cases e : T[i]? with
  | none => show 0 < 2; decide
  | some x => exact h x (List.mem_of_getElem? e)
theorem is01.app {U : List Nat} (h : is01 T) (h2 : is01 U) : is01 (T ++ U) := fun x hx => (List.mem_append.mp hx).elim (h x) (h2 x)
theorem is01.one (hb : b < 2) : is01 [b] := fun x hx => by rw [List.mem_singleton.mp hx]; exact hb
theorem byS_old {j : Nat} (h : 8 * j + 8 ≤ T.length) : byS (T ++ [b]) j = byS T j := bvF_congr (fun i hi => getD_in (by omega))
theorem byS_new : byS (T ++ [b]) (T.length / 8) = byS T (T.length / 8) + b * 2 ^ (T.length % 8) := by
  have hr : T.length % 8 < 8 := Nat.mod_lt _ (by decide)
  unfold byS
  rw [bvF_zero (n := T.length % 8 + 1) (m := 8) (by omega) (fun i h1 h2 => getD_out (by rw [List.length_append, List.length_singleton]; omega)), bvF_zero (f := fun i => T.getD (8 * (T.length / 8) + i) 0) (n := T.length % 8) (m := 8) (by omega) (fun i h1 h2 => getD_out (by omega))]
  show bvF (fun i => (T ++ [b]).getD (8 * (T.length / 8) + i) 0) (T.length % 8) + (T ++ [b]).getD (8 * (T.length / 8) + T.length % 8) 0 * 2 ^ (T.length % 8) = _
  rw [show 8 * (T.length / 8) + T.length % 8 = T.length by omega, getD_at]
  congr 1
  exact bvF_congr (fun i hi => getD_in (by omega))
theorem byS_low (h : is01 T) : byS T (T.length / 8) < 2 ^ (T.length % 8) := by
  have hr : T.length % 8 < 8 := Nat.mod_lt _ (by decide)
  unfold byS
  rw [bvF_zero (n := T.length % 8) (m := 8) (by omega) (fun i h1 h2 => getD_out (by omega))]
  exact bvF_lt (fun i _ => h.g _)
theorem byS_256 (h : is01 T) (j : Nat) : byS T j < 256 := bvF_lt (n := 8) (fun i _ => h.g _)
theorem byS_end {j : Nat} (h : T.length ≤ 8 * j) : byS T j = 0 := bvF_zero (n := 0) (m := 8) (by decide) (fun i _ _ => getD_out (by omega))
theorem byL_len {n : Nat} : (byL T n).length = n := by unfold byL; rw [List.length_map, List.length_range]
theorem byL_succ {n : Nat} : byL T (n + 1) = byL T n ++ [nI (byS T n)] := by unfold byL; rw [List.range_succ, List.map_append]; rfl
theorem byL_old {n : Nat} (h : 8 * n ≤ T.length) : byL (T ++ [b]) n = byL T n := by
  unfold byL
  apply List.map_congr_left
  intro j hj
  rw [List.mem_range] at hj
  rw [byS_old (by omega)]
theorem isB_byL (h : is01 T) {n : Nat} : ∀ b ∈ byL T n, isB b := by
  intro b hb
  unfold byL at hb
  obtain ⟨j, -, rfl⟩ := List.mem_map.mp hb
  exact ⟨_, byS_256 h j, rfl⟩
end By
/-! words and low bits -/
def wb (w : Nat) : Nat → List Nat
  | 0 => []
  | n + 1 => w / 2 ^ n % 2 :: wb w n
def lo (v k n : Nat) : List Nat := (List.range' k (n - k)).map fun i => v / 2 ^ i % 2
theorem wb_01 (w : Nat) : ∀ n, is01 (wb w n)
  | 0 => fun b hb => by cases hb
  | n + 1 => fun b hb => by
    rcases List.mem_cons.mp hb with rfl | q
    · exact Nat.mod_lt _ (by decide)
    · exact wb_01 w n b q
theorem lo_01 (v k n : Nat) : is01 (lo v k n) := fun b hb => by
  unfold lo at hb
  obtain ⟨i, -, rfl⟩ := List.mem_map.mp hb
  exact Nat.mod_lt _ (by decide)
theorem lo_cons {v k n : Nat} (h : k < n) : lo v k n = v / 2 ^ k % 2 :: lo v (k + 1) n := by
  unfold lo
  rw [show n - k = (n - (k + 1)) + 1 by omega, List.range'_succ]
  rfl
theorem lo_nil {v k n : Nat} (h : n ≤ k) : lo v k n = [] := by unfold lo; rw [show n - k = 0 by omega]; rfl
theorem wb_len (w : Nat) : ∀ n, (wb w n).length = n
  | 0 => rfl
  | n + 1 => by show (wb w n).length + 1 = _; rw [wb_len w n]
theorem lo_len (v k n : Nat) : (lo v k n).length = n - k := by unfold lo; rw [List.length_map, List.length_range']
def cWd (s : Nat) : Nat := if s < 144 then 48 + s else if s < 256 then 400 + s - 144 else if s < 280 then s - 256 else 192 + s - 280
def cLn (s : Nat) : Nat := if s < 144 then 8 else if s < 256 then 9 else if s < 280 then 7 else 8
def sb (s : Nat) : List Nat := wb (cWd s) (cLn s)
def eL (v : Nat) : Nat → Nat → Nat
  | 0, e => e
  | f + 1, e => if 5 ≤ e ∨ v / 2 ^ e ≤ 7 then e else eL v f (e + 1)
def eDs (v : Nat) : Nat → Nat → Nat
  | 0, e => e
  | f + 1, e => if 13 ≤ e ∨ v / 2 ^ e ≤ 3 then e else eDs v f (e + 1)
def lnB (n : Nat) : List Nat := if n - 3 < 8 then sb (257 + (n - 3)) else sb (261 + 4 * eL (n - 3) 5 1 + (n - 3) / 2 ^ eL (n - 3) 5 1 - 4) ++ lo (n - 3) 0 (eL (n - 3) 5 1)
def dsB (d : Nat) : List Nat := if d - 1 < 4 then wb (d - 1) 5 else wb (2 * eDs (d - 1) 13 1 + (d - 1) / 2 ^ eDs (d - 1) 13 1) 5 ++ lo (d - 1) 0 (eDs (d - 1) 13 1)
def sM (n : Nat) : Nat → Nat → Nat
  | 0, s => s
  | f + 1, s => if 284 ≤ s ∨ n < lL (s + 1) then s else sM n f (s + 1)
def tM (d : Nat) : Nat → Nat → Nat
  | 0, t => t
  | f + 1, t => if 29 ≤ t ∨ d < lD (t + 1) then t else tM d f (t + 1)
theorem len_eq : ∀ n : Fin 201, 3 ≤ n.val → (sb (sM n.val 28 257) ++ lo (n.val - lL (sM n.val 28 257)) 0 (xL (sM n.val 28 257)) = lnB n.val ∧ lL (sM n.val 28 257) ≤ n.val ∧ 257 ≤ sM n.val 28 257 ∧ sM n.val 28 257 ≤ 284 ∧ (lnB n.val).length ≤ 13 ∧ eL (n.val - 3) 5 1 ≤ 5) := by decide +kernel
theorem dis_eq : ∀ d : Fin 201, 1 ≤ d.val → (wb (tM d.val 30 0) 5 ++ lo (d.val - lD (tM d.val 30 0)) 0 (xD (tM d.val 30 0)) = dsB d.val ∧ lD (tM d.val 30 0) ≤ d.val ∧ tM d.val 30 0 ≤ 29 ∧ (dsB d.val).length ≤ 11 ∧ eDs (d.val - 1) 13 1 ≤ 13) := by decide +kernel
theorem kF_fix : kF fL1 7 = 0 ∧ kF fL1 8 = 48 ∧ kF fL1 9 = 400 ∧ kF fL2 5 = 0 := by decide +kernel
theorem kR_fix1 : ∀ s : Fin 288, kR fL1 s.val = if s.val < 144 then s.val else if s.val < 256 then s.val - 144 else if s.val < 280 then s.val - 256 else s.val - 280 + 144 := by decide +kernel
theorem kR_fix2 : ∀ s : Fin 32, kR fL2 s.val = s.val := by decide +kernel
theorem kW_fix1 {s : Nat} (h : s < 288) : kW fL1 s = cWd s := by
  have h1 : kR fL1 s = _ := kR_fix1 ⟨s, h⟩
  obtain ⟨f7, f8, f9, -⟩ := kF_fix
  unfold kW cWd
  rw [h1, fL1_g h]
  simp only []
  by_cases c1 : s < 144
  · rw [if_pos c1, if_pos c1, if_pos c1, f8]
  · rw [if_neg c1, if_neg c1, if_neg c1]
    by_cases c2 : s < 256
    · rw [if_pos c2, if_pos c2, if_pos c2, f9]; omega
    · rw [if_neg c2, if_neg c2, if_neg c2]
      by_cases c3 : s < 280
      · rw [if_pos c3, if_pos c3, if_pos c3, f7]; omega
      · rw [if_neg c3, if_neg c3, if_neg c3, f8]; omega
theorem kW_fix2 {t : Nat} (h : t < 32) : kW fL2 t = t := by
  have h1 : kR fL2 t = t := kR_fix2 ⟨t, h⟩
  unfold kW
  rw [h1, fL2_g h, kF_fix.2.2.2, Nat.zero_add]
/-! the longest repeat -/
def smL (B : List Int32) (i d : Nat) : Nat → Nat → Nat
  | 0, n => n
  | f + 1, n => if n < 258 ∧ i + n < B.length ∧ B.getD (i + n) 0 = B.getD (i + n - d) 0 then smL B i d f (n + 1) else n
def smS (B : List Int32) (i d : Nat) : Nat := smL B i d 201 0
def bsS (B : List Int32) (i : Nat) : Nat → Nat × Nat
  | 0 => (0, 0)
  | d + 1 => if (bsS B i d).1 < smS B i (d + 1) then (smS B i (d + 1), d + 1) else bsS B i d
theorem smL_le (B : List Int32) (i d : Nat) : ∀ f n, n ≤ B.length - i → smL B i d f n ≤ B.length - i
  | 0, n, h => h
  | f + 1, n, h => by
    unfold smL
    split
    · exact smL_le B i d f (n + 1) (by omega)
    · exact h
theorem smS_le (B : List Int32) (i d : Nat) : smS B i d ≤ B.length - i := smL_le B i d 201 0 (Nat.zero_le _)
theorem bsS_le (B : List Int32) (i : Nat) : ∀ d, (bsS B i d).1 ≤ B.length - i ∧ (bsS B i d).2 ≤ d ∧ (0 < (bsS B i d).1 → 0 < (bsS B i d).2)
  | 0 => ⟨Nat.zero_le _, Nat.le_refl _, fun h => absurd h (by show ¬ 0 < 0; decide)⟩
  | d + 1 => by
    have ih := bsS_le B i d
    unfold bsS
    split
    · exact ⟨smS_le _ _ _, Nat.le_refl _, fun _ => Nat.succ_pos _⟩
    · exact ⟨ih.1, by omega, ih.2.2⟩
def stB (B : List Int32) (i : Nat) : List Nat := if (bsS B i i).1 < 3 then sb (bN (B.getD i 0)) else lnB (bsS B i i).1 ++ dsB (bsS B i i).2
def stN (B : List Int32) (i : Nat) : Nat := if (bsS B i i).1 < 3 then 1 else (bsS B i i).1
def bdS (B : List Int32) : Nat → Nat → List Nat
  | 0, _ => []
  | m + 1, i => if i < B.length then stB B i ++ bdS B m (i + stN B i) else sb 256
def pkT (B : List Int32) : List Nat := [1, 1, 0] ++ bdS B 201 0
def pkS (B : List Int32) : List Int32 := byL (pkT B) (((pkT B).length + 7) / 8)
theorem sb_01 (s : Nat) : is01 (sb s) := wb_01 _ _
theorem sb_len (s : Nat) : (sb s).length ≤ 9 := by unfold sb cLn; rw [wb_len]; split; omega; split; omega; split <;> omega
theorem lnB_01 (n : Nat) : is01 (lnB n) := by
  unfold lnB
  split
  · exact sb_01 _
  · exact (sb_01 _).app (lo_01 _ _ _)
theorem dsB_01 (d : Nat) : is01 (dsB d) := by
  unfold dsB
  split
  · exact wb_01 _ _
  · exact (wb_01 _ _).app (lo_01 _ _ _)
theorem stB_01 (B : List Int32) (i : Nat) : is01 (stB B i) := by
  unfold stB
  split
  · exact sb_01 _
  · exact (lnB_01 _).app (dsB_01 _)
theorem stB_len {B : List Int32} {i : Nat} (hB : B.length ≤ 200) (hi : i < B.length) : (stB B i).length ≤ 9 * stN B i ∧ 0 < stN B i ∧ i + stN B i ≤ B.length := by
  have hb := bsS_le B i i
  unfold stB stN
  by_cases c : (bsS B i i).1 < 3
  · rw [if_pos c, if_pos c]
    exact ⟨sb_len _, Nat.one_pos, by omega⟩
  · rw [if_neg c, if_neg c]
    have h1 := (len_eq ⟨(bsS B i i).1, by omega⟩ (by show 3 ≤ (bsS B i i).1; omega)).2.2.2.2.1
    have h2 := (dis_eq ⟨(bsS B i i).2, by omega⟩ (hb.2.2 (by omega))).2.2.2.1
    simp only at h1 h2
    rw [List.length_append]
    exact ⟨by omega, by omega, by omega⟩
theorem bdS_01 (B : List Int32) : ∀ m i, is01 (bdS B m i)
  | 0, i => fun b hb => by cases hb
  | m + 1, i => by
    unfold bdS
    split
    · exact (stB_01 _ _).app (bdS_01 B m _)
    · exact sb_01 _
theorem bdS_len {B : List Int32} (hB : B.length ≤ 200) : ∀ m i, i ≤ B.length → (bdS B m i).length ≤ 9 * (B.length - i) + 7
  | 0, i, _ => Nat.zero_le _
  | m + 1, i, h => by
    unfold bdS
    split
    · rename_i hi
      have h1 := stB_len hB hi
      have h2 := bdS_len hB m (i + stN B i) (by omega)
      rw [List.length_append]
      omega
    · show (wb (cWd 256) 7).length ≤ _
      rw [wb_len]
      omega
theorem pkT_01 (B : List Int32) : is01 (pkT B) := is01.app (fun b hb => by simp at hb; omega) (bdS_01 B 201 0)
theorem pkT_len {B : List Int32} (hB : B.length ≤ 200) : (pkT B).length ≤ 1810 := by
  have := bdS_len hB 201 0 (Nat.zero_le _)
  unfold pkT
  rw [List.length_append]
  show 3 + _ ≤ _
  omega
theorem pkS_len {B : List Int32} (hB : B.length ≤ 200) : (pkS B).length ≤ 227 := by
  have := pkT_len hB
  unfold pkS
  rw [byL_len]
  omega
theorem isB_pkS (B : List Int32) : ∀ b ∈ pkS B, isB b := isB_byL (pkT_01 B)
