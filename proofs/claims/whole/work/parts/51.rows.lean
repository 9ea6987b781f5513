/-! What a step leaves as it was: all places but those of S. Rows by what they hold. -/
def Fr (S : List Nat) (w w' : zW) : Prop := w'.length = w.length ∧ ∀ j, j ∉ S → w'[j]? = w[j]?
section Frs
variable {S S' : List Nat} {w w' w2 : zW} {q ci : Nat}
theorem Fr.rf : Fr S w w := ⟨rfl, fun _ _ => rfl⟩
theorem Fr.tr (h : Fr S w w') (h2 : Fr S w' w2) : Fr S w w2 := ⟨h2.1.trans h.1, fun j hj => (h2.2 j hj).trans (h.2 j hj)⟩
theorem Fr.mono (h : Fr S w w') (hs : ∀ j ∈ S, j ∈ S') : Fr S' w w' := ⟨h.1, fun j hj => h.2 j fun q => hj (hs j q)⟩
theorem Fr.obj (h : Fr S w w') (hq : q ∉ S) : zobj w' q ci = zobj w q ci := by unfold zobj; rw [h.2 q hq]
theorem Fr.ints (h : Fr S w w') (hq : q ∉ S) : zints w' q = zints w q := by unfold zints; rw [h.2 q hq]
theorem Fr.longs (h : Fr S w w') (hq : q ∉ S) : zlongs w' q = zlongs w q := by unfold zlongs; rw [h.2 q hq]
theorem Fr.refs (h : Fr S w w') (hq : q ∉ S) : zrefs w' q = zrefs w q := by unfold zrefs; rw [h.2 q hq]
theorem Fr.set {c : zC} (hq : q ∈ S) : Fr S w (w.set q c) := ⟨List.length_set, fun j hj => List.getElem?_set_ne (fun e => hj (by rw [← e]; exact hq))⟩
theorem Fr.row {r a n : Nat} {xs : List Int32} {ov : Int32} (h : Fr S w w') (hr : r ∉ S) (ha : a ∉ S) (h1 : row w r a xs n ov) : row w' r a xs n ov := ⟨(h.obj hr).trans h1.1, (h.ints ha).trans h1.2.1, h1.2.2⟩
theorem setRow_Fr {r a n : Nat} {xs : List Int32} {ov : Int32} : Fr [r, a] w (setRow w r a xs n ov) := (Fr.set (by simp)).tr (Fr.set (by simp))
end Frs
/-- the row at r, its array at a, holds B; its room is cap -/
def rw_ (w : zW) (r a cap : Nat) (B : List Int32) (ov : Int32) : Prop := ∃ xs, row w r a xs B.length ov ∧ xs.take B.length = B ∧ xs.length = cap
section Rw
variable {w w' : zW} {r a cap : Nat} {B : List Int32} {ov : Int32} {S : List Nat}
theorem Fr.rw (h : Fr S w w') (hr : r ∉ S) (ha : a ∉ S) (h1 : rw_ w r a cap B ov) : rw_ w' r a cap B ov := by
  obtain ⟨xs, h2, h3⟩ := h1
  exact ⟨xs, h.row hr ha h2, h3⟩
theorem rw_le (h : rw_ w r a cap B ov) : B.length ≤ cap ∧ cap ≤ 1600 := by
  obtain ⟨xs, h1, h2, h3⟩ := h
  have := h1.2.2.1
  have := h1.2.2.2
  omega
theorem rw_obj (h : rw_ w r a cap B ov) : zobj w r 0 = some (rowF a B.length ov) := by
  obtain ⟨xs, h1, -⟩ := h
  exact h1.1
theorem rw_ne (h : rw_ w r a cap B ov) : r ≠ a := by
  obtain ⟨xs, h1, -⟩ := h
  exact row_ne h1
theorem rw_size (h : rw_ w r a cap B ov) : getI w r 0 1 = some (nI B.length) := getI_of (rw_obj h) rfl
theorem rw_arr (h : rw_ w r a cap B ov) : getR w r 0 0 = some a := getR_of (rw_obj h) rfl
theorem rw_ov (h : rw_ w r a cap B ov) : getI w r 0 2 = some ov := getI_of (rw_obj h) rfl
theorem rw_alen (h : rw_ w r a cap B ov) : alen w a = some (nI cap) := by
  obtain ⟨xs, h1, -, h3⟩ := h
  rw [alen_of h1.2.1, h3]
theorem rw_at (h : rw_ w r a cap B ov) {k : Nat} (hk : k < B.length) : aget w a (nI k) = some B[k] := by
  have hle := rw_le h
  obtain ⟨xs, h1, h2, h3⟩ := h
  refine aget_of h1.2.1 (by omega) ?_
  have : (xs.take B.length)[k]? = some B[k] := by rw [h2]; exact List.getElem?_eq_getElem hk
  rwa [List.getElem?_take_of_lt hk] at this
theorem take_set_succ {xs : List Int32} {n : Nat} {b : Int32} (h : n < xs.length) : (xs.set n b).take (n + 1) = xs.take n ++ [b] := by
  rw [List.take_succ, List.take_set_of_le (Nat.le_refl n), List.getElem?_set_self h]
  rfl
theorem rw_append (F : Nat) (b : Int32) (h : rw_ w r a cap B ov) (hc : B.length < cap) : ∃ w', f_Row_append F r b w = some ((), w') ∧ rw_ w' r a cap (B ++ [b]) ov ∧ Fr [r, a] w w' := by
  have hle := rw_le h
  obtain ⟨xs, h1, h2, h3⟩ := h
  refine ⟨_, s_append F b h1, ?_, ?_⟩
  · rw [if_pos (by omega)]
    refine ⟨xs.set B.length b, ?_, ?_, by rw [List.length_set]; exact h3⟩
    · rw [List.length_append]
      exact setRow_row h1 (by rw [List.length_set]; omega) (by rw [List.length_set]; omega)
    · rw [List.length_append, List.length_singleton, take_set_succ (by omega), h2]
  · rw [if_pos (by omega)]; exact setRow_Fr
theorem rw_append_full (F : Nat) (b : Int32) (h : rw_ w r a cap B ov) (hc : B.length = cap) : ∃ w', f_Row_append F r b w = some ((), w') ∧ rw_ w' r a cap B 1 ∧ Fr [r, a] w w' := by
  have hle := rw_le h
  obtain ⟨xs, h1, h2, h3⟩ := h
  refine ⟨_, s_append F b h1, ?_, ?_⟩
  · rw [if_neg (by omega)]
    exact ⟨xs, setRow_row h1 h1.2.2.1 h1.2.2.2, h2, h3⟩
  · rw [if_neg (by omega)]; exact setRow_Fr
theorem rw_empty (F : Nat) (h : rw_ w r a cap B ov) : ∃ w', f_Row_empty F r w = some ((), w') ∧ rw_ w' r a cap [] 0 ∧ Fr [r, a] w w' := by
  have ho := rw_obj h
  have hne := rw_ne h
  obtain ⟨xs, h1, h2, h3⟩ := h
  have hl := zobj_lt ho
  refine ⟨(w.set r (.inr (.inr (.inr (0, rowF a 0 ov))))).set r (.inr (.inr (.inr (0, rowF a 0 0)))), ?_, ⟨xs, ⟨?_, ?_, Nat.zero_le _, h1.2.2.2⟩, rfl, h3⟩, (Fr.set (by simp)).tr (Fr.set (by simp))⟩
  · simp only [f_Row_empty, b_Row_empty_0]
    rw [putI_of ho (show 1 < 3 by decide), Option.bind_some]
    have e : zobj (w.set r (.inr (.inr (.inr (0, (rowF a B.length ov).set 1 (.inl 0)))))) r 0 = some (rowF a 0 ov) := zobj_eq hl
    rw [putI_of e (show 2 < 3 by decide), Option.bind_some]
    rfl
  · exact zobj_eq (by rw [List.length_set]; exact hl)
  · rw [zints_ne hne, zints_ne hne]; exact h1.2.1
theorem rw_has (F : Nat) (i : Int32) (h : rw_ w r a cap B ov) : f_Row_has F r i w = some (if 0 ≤ i ∧ i < nI B.length then 1 else 0, w) := by
  simp only [f_Row_has, b_Row_has_0, b_Row_has_16, rw_size h, Option.bind_some]
  by_cases h0 : i < 0
  · rw [if_pos h0, if_neg (fun q => Int32.not_le.mpr h0 q.1)]
  · rw [if_neg h0]
    by_cases h1 : nI B.length ≤ i
    · rw [if_pos h1, if_neg (fun q => Int32.not_lt.mpr h1 q.2)]
    · rw [if_neg h1, if_pos ⟨Int32.not_lt.mp h0, Int32.not_le.mp h1⟩]
theorem rw_hasRoom (F : Nat) {n : Nat} (hn : n < 2 ^ 30) (h : rw_ w r a cap B ov) : f_Row_hasRoom F r (nI n) w = some (if B.length + n ≤ cap then 1 else 0, w) := by
  have hle := rw_le h
  simp only [f_Row_hasRoom, b_Row_hasRoom_0, rw_size h, rw_arr h, rw_alen h, Option.bind_some]
  rw [pk_sub hle.1]
  by_cases h1 : B.length + n ≤ cap
  · rw [if_neg (nI_nlt (by omega) (by omega)), if_pos h1]
  · rw [if_pos (nI_lt (by omega) (by omega)), if_neg h1]
theorem rw_hasY (F : Nat) {k : Nat} (h : rw_ w r a cap B ov) (hk : k < B.length) : f_Row_has F r (nI k) w = some (1, w) := by
  have hle := rw_le h
  rw [rw_has F _ h, if_pos ⟨nI_pos' (by omega), nI_lt hk (by omega)⟩]
theorem rw_hasN (F : Nat) {i : Int32} (h : rw_ w r a cap B ov) (hk : ¬ (0 ≤ i ∧ i < nI B.length)) : f_Row_has F r i w = some (0, w) := by
  rw [rw_has F _ h, if_neg hk]
theorem rw_get (F : Nat) {k : Nat} (h : rw_ w r a cap B ov) (hk : k < B.length) : f_Row_get F r (nI k) w = some (B[k], w) := by
  simp only [f_Row_get, b_Row_get_0, rw_obj h, rw_hasY F h hk, Option.bind_some]
  rw [if_neg (by decide), rw_arr h, Option.bind_some, rw_at h hk, Option.bind_some]
theorem rw_getNo (F : Nat) {i : Int32} (h : rw_ w r a cap B ov) (hk : ¬ (0 ≤ i ∧ i < nI B.length)) : f_Row_get F r i w = some (0, w) := by
  simp only [f_Row_get, b_Row_get_0, rw_obj h, rw_hasN F h hk, Option.bind_some, if_pos]
end Rw
/-! The check's sum. -/
def ush1 (r : Int32) : Int32 := (r.toUInt32 >>> ((1 : Int32).toUInt32 &&& Int32.toUInt32 31)).toInt32
def cstep (r : Int32) : Int32 := if r &&& 1 = 1 then ush1 r ^^^ (-306674912) else ush1 r
def cN : Nat → Int32 → Int32
  | 0, r => r
  | k + 1, r => cN k (cstep r)
def crcF (B : List Int32) (r : Int32) : Int32 := B.foldl (fun r b => cN 8 (r ^^^ b)) r
def crcL (B : List Int32) : Int32 := -1 - crcF B (-1)
theorem ck_in (F : Nat) (K4 : Nat → Int32 → Int32 → zW → Option (Int32 × zW)) (r : Nat) (v2 : Int32) (w : zW) : ∀ (k n j : Nat) (x : Int32), j + k = 8 → k < n → l_Row_checksum_23 F K4 n r x v2 (nI j) w = K4 r (cN k x) (v2 + 1) w := by
  intro k
  induction k with
  | zero =>
    intro n j x hj hn
    obtain ⟨n, rfl⟩ : ∃ m, n = m + 1 := ⟨n - 1, by omega⟩
    have : j = 8 := by omega
    subst this
    show b_Row_checksum_23 F K4 (l_Row_checksum_23 F K4 n) r x v2 (nI 8) w = _
    unfold b_Row_checksum_23
    rw [if_pos (by decide)]
    rfl
  | succ k ih =>
    intro n j x hj hn
    obtain ⟨n, rfl⟩ : ∃ m, n = m + 1 := ⟨n - 1, by omega⟩
    show b_Row_checksum_23 F K4 (l_Row_checksum_23 F K4 n) r x v2 (nI j) w = _
    unfold b_Row_checksum_23
    rw [if_neg (show ¬ (8 : Int32) ≤ nI j from nI_ge (b := 8) (by omega) (by omega))]
    unfold b_Row_checksum_48
    rw [nI_1]
    show _ = K4 r (cN k (cstep x)) (v2 + 1) w
    rw [← ih n (j + 1) (cstep x) (by omega) (by omega)]
    unfold cstep ush1
    split <;> rfl
theorem ck_out {w : zW} {r a cap : Nat} {B : List Int32} {ov : Int32} (F : Nat) (hF : 20000 ≤ F) (h : rw_ w r a cap B ov) : ∀ (k n : Nat) (x : Int32), k ≤ B.length → B.length - k < n → l_Row_checksum_4 F n r x (nI k) w = some (-1 - crcF (B.drop k) x, w) := by
  have hle := rw_le h
  intro k n
  induction n generalizing k with
  | zero => intro x _ h2; exact absurd h2 (by omega)
  | succ n ih =>
    intro x h1 h2
    show b_Row_checksum_4 F (l_Row_checksum_4 F n) r x (nI k) w = _
    unfold b_Row_checksum_4
    rw [rw_size h, Option.bind_some]
    by_cases hk : k < B.length
    · rw [if_neg (nI_ge hk (by omega)), rw_arr h, Option.bind_some, rw_at h hk, Option.bind_some]
      rw [show (0 : Int32) = nI 0 from rfl, ck_in F _ r _ w 8 F 0 _ rfl (by omega), nI_1, ih (k + 1) _ (by omega) (by omega)]
      rw [List.drop_eq_getElem_cons hk]
      rfl
    · have : k = B.length := by omega
      subst this
      rw [if_pos (nI_le (Nat.le_refl _) (by omega)), List.drop_length]
      rfl
theorem rw_crc {w : zW} {r a cap : Nat} {B : List Int32} {ov : Int32} (F : Nat) (hF : 20000 ≤ F) (h : rw_ w r a cap B ov) : f_Row_checksum F r w = some (crcL B, w) := by
  have hle := rw_le h
  show l_Row_checksum_4 F F r (-1) (nI 0) w = _
  rw [ck_out F hF h 0 F (-1) (Nat.zero_le _) (by omega)]
  rfl

/-! Bytes of a number, lowest first; numbers out of bytes. -/
def lb (x : Int64) (k : Nat) : Int32 := (x.toUInt64 >>> (((8 : Int32) * nI k).toInt64.toUInt64 &&& Int64.toUInt64 63)).toInt64.toInt32 &&& (255 : Int32)
def lbs (x : Int64) (k n : Nat) : List Int32 := (List.range' k (n - k)).map (lb x)
def hbs (x : Int64) (n : Nat) : List Int32 := ((List.range n).map (lb x)).reverse
theorem lbs_cons {x : Int64} {k n : Nat} (h : k < n) : lbs x k n = lb x k :: lbs x (k + 1) n := by
  unfold lbs
  rw [show n - k = (n - (k + 1)) + 1 by omega, List.range'_succ]
  rfl
theorem hbs_succ {x : Int64} {n : Nat} : hbs x (n + 1) = lb x n :: hbs x n := by
  unfold hbs
  rw [List.range_succ, List.map_append, List.reverse_append]
  rfl
theorem hbs_len {x : Int64} {n : Nat} : (hbs x n).length = n := by simp [hbs]
theorem lbs_len {x : Int64} {k n : Nat} : (lbs x k n).length = n - k := by simp [lbs]
section Rn
variable {r a cap : Nat} {ov : Int32}
theorem rw_hf (F : Nat) (x : Int64) : ∀ (n m : Nat) (w : zW) (B : List Int32), rw_ w r a cap B ov → B.length + n ≤ cap → n < m → n ≤ 1600 → ∃ w', l_Row_appendHighestFirst_5 F m r x (nI n - 1) w = some ((), w') ∧ rw_ w' r a cap (B ++ hbs x n) ov ∧ Fr [r, a] w w' := by
  intro n
  induction n with
  | zero =>
    intro m w B h _ hm _
    obtain ⟨m, rfl⟩ : ∃ q, m = q + 1 := ⟨m - 1, by omega⟩
    refine ⟨w, ?_, by simpa [hbs] using h, Fr.rf⟩
    show b_Row_appendHighestFirst_5 F (l_Row_appendHighestFirst_5 F m) r x (nI 0 - 1) w = _
    unfold b_Row_appendHighestFirst_5
    rw [if_pos (by decide)]
  | succ n ih =>
    intro m w B h hc hm h16
    obtain ⟨m, rfl⟩ : ∃ q, m = q + 1 := ⟨m - 1, by omega⟩
    obtain ⟨w1, e1, h1, f1⟩ := rw_append F (lb x n) h (by omega)
    obtain ⟨w2, e2, h2, f2⟩ := ih m w1 (B ++ [lb x n]) h1 (by rw [List.length_append]; simp; omega) (by omega) (by omega)
    refine ⟨w2, ?_, ?_, f1.tr f2⟩
    · show b_Row_appendHighestFirst_5 F (l_Row_appendHighestFirst_5 F m) r x (nI (n + 1) - 1) w = _
      unfold b_Row_appendHighestFirst_5
      rw [nI_pred, if_neg (nI_pos (by omega)), rw_obj h, Option.bind_some]
      have e1' : f_Row_append F r ((x.toUInt64 >>> (((8 : Int32) * nI n).toInt64.toUInt64 &&& Int64.toUInt64 63)).toInt64.toInt32 &&& (255 : Int32)) w = some ((), w1) := e1
      rw [e1', Option.bind_some, ← Int32.sub_eq_add_neg]
      exact e2
    · rw [hbs_succ]
      simpa using h2
theorem rw_highest (F : Nat) (hF : 20000 ≤ F) (x : Int64) {n : Nat} {w : zW} {B : List Int32} (h : rw_ w r a cap B ov) (hc : B.length + n ≤ cap) : ∃ w', f_Row_appendHighestFirst F r x (nI n) w = some ((), w') ∧ rw_ w' r a cap (B ++ hbs x n) ov ∧ Fr [r, a] w w' := by
  have hle := rw_le h
  exact rw_hf F x n F w B h hc (by omega) (by omega)
/-- a stretch of the row r2 behind what the row r holds -/
theorem rw_part (F : Nat) {w : zW} {B C : List Int32} {r2 a2 cap2 s t : Nat} {ov2 : Int32} (h : rw_ w r a cap B ov) (h2 : rw_ w r2 a2 cap2 C ov2) (hne : r2 ≠ r) (hna : a2 ≠ a) (hst : s ≤ t) (ht : t ≤ C.length) (hc : B.length + (t - s) ≤ cap) : ∃ w', f_Row_appendPart F r r2 (nI s) (nI t) w = some ((), w') ∧ rw_ w' r a cap (B ++ (C.drop s).take (t - s)) ov ∧ Fr [r, a] w w' := by
  have hle := rw_le h
  have hle2 := rw_le h2
  have ho := rw_obj h
  have hra := rw_ne h
  obtain ⟨xs, x1, x2, x3⟩ := id h
  obtain ⟨ys, y1, y2, y3⟩ := id h2
  have hcp : acopy w a2 (nI s) a (nI B.length) (nI (t - s)) = some (w.set a (.inl (zcpy ys xs s B.length (t - s)))) := by
    unfold acopy
    rw [y1.2.1, Option.bind_some, x1.2.1, Option.bind_some, nI_clamp (by omega), nI_clamp (by omega), nI_clamp (by omega), if_neg]
    have := y1.2.2.1
    have hl := x1.2.2.1
    rintro (q | q | q | q | q)
    · exact nI_pos (by omega) q
    · exact nI_pos (by omega) q
    · exact nI_pos (by omega) q
    · omega
    · omega
  have hl := zobj_lt ho
  have hla := zints_lt x1.2.1
  have ho2 : zobj (w.set a (.inl (zcpy ys xs s B.length (t - s)))) r 0 = some (rowF a B.length ov) := by rw [zobj_ne (Ne.symm hra)]; exact ho
  refine ⟨(w.set a (.inl (zcpy ys xs s B.length (t - s)))).set r (.inr (.inr (.inr (0, rowF a (B.length + (t - s)) ov)))), ?_, ⟨zcpy ys xs s B.length (t - s), ⟨?_, ?_, ?_, ?_⟩, ?_, ?_⟩, (Fr.set (by simp)).tr (Fr.set (by simp))⟩
  · simp only [f_Row_appendPart, b_Row_appendPart_0]
    rw [if_neg (nI_pos (by omega)), if_neg (nI_nlt hst (by omega)), rw_size h2, Option.bind_some, if_neg (nI_nlt ht (by omega)), ho, Option.bind_some, pk_sub hst, rw_hasRoom F (by omega) h, if_pos hc, Option.bind_some]
    simp only []
    rw [if_neg (by decide), rw_arr h2, Option.bind_some, rw_arr h, Option.bind_some, rw_size h, Option.bind_some, hcp, Option.bind_some, getI_of ho2 rfl, Option.bind_some, putI_of ho2 (show 1 < 3 by decide), Option.bind_some, nI_add]
    rfl
  · have e : (B ++ (C.drop s).take (t - s)).length = B.length + (t - s) := by simp; omega
    rw [e]
    exact zobj_eq (by rw [List.length_set]; exact hl)
  · rw [zints_ne hra]; exact zints_eq hla
  · rw [zcpy_len (by omega) (by omega)]; simp; omega
  · rw [zcpy_len (by omega) (by omega)]; omega
  · have e : (B ++ (C.drop s).take (t - s)).length = B.length + (t - s) := by simp; omega
    rw [e]
    unfold zcpy
    have e1 : (xs.take B.length).length = B.length := by rw [x2]
    have e2 : ((ys.drop s).take (t - s)).length = t - s := by simp; omega
    rw [List.take_append_of_le_length (by rw [List.length_append]; omega), List.take_of_length_le (by rw [List.length_append]; omega), x2]
    congr 1
    rw [← y2, List.drop_take, List.take_take]
    congr 1
    omega
  · rw [zcpy_len (by omega) (by omega)]; exact x3
/-- become: the row r holds what r2 holds -/
theorem rw_become (F : Nat) {w : zW} {B C : List Int32} {r2 a2 cap2 : Nat} {ov2 : Int32} (h : rw_ w r a cap B ov) (h2 : rw_ w r2 a2 cap2 C ov2) (hne : r2 ≠ r) (hna : a2 ≠ a) (hra : r2 ≠ a) (har : a2 ≠ r) (hc : C.length ≤ cap) : ∃ w', f_Row_become F r r2 w = some ((), w') ∧ rw_ w' r a cap C 0 ∧ Fr [r, a] w w' := by
  obtain ⟨w1, e1, h1, f1⟩ := rw_empty F h
  have h2' := f1.rw (by simp [hne, hra]) (by simp [har, hna]) h2
  obtain ⟨w2, e2, h3, f2⟩ := rw_part F (s := 0) (t := C.length) h1 h2' hne hna (Nat.zero_le _) (Nat.le_refl _) (by simpa using hc)
  refine ⟨w2, ?_, by simpa using h3, f1.tr f2⟩
  simp only [f_Row_become, b_Row_become_0]
  rw [rw_obj h, Option.bind_some, e1, Option.bind_some]
  simp only []
  rw [rw_size h2', Option.bind_some, rw_obj h1, Option.bind_some, show (0 : Int32) = nI 0 from rfl, e2, Option.bind_some]
end Rn
