/-! From here on no machine: worlds as lists, reads behind writes. -/
section Lk
variable {w : zW} {i q ci cj : Nat} {c : zC} {fs : List zF} {xs : List Int32}
theorem zobj_ne (h : i ≠ q) : zobj (w.set i c) q ci = zobj w q ci := by unfold zobj; rw [List.getElem?_set_ne h]
theorem zints_ne (h : i ≠ q) : zints (w.set i c) q = zints w q := by unfold zints; rw [List.getElem?_set_ne h]
theorem zlongs_ne (h : i ≠ q) : zlongs (w.set i c) q = zlongs w q := by unfold zlongs; rw [List.getElem?_set_ne h]
theorem zrefs_ne (h : i ≠ q) : zrefs (w.set i c) q = zrefs w q := by unfold zrefs; rw [List.getElem?_set_ne h]
theorem zobj_eq (h : q < w.length) : zobj (w.set q (.inr (.inr (.inr (ci, fs))))) q ci = some fs := by unfold zobj; rw [List.getElem?_set_self h]; simp
theorem zints_eq (h : q < w.length) : zints (w.set q (.inl xs)) q = some xs := by unfold zints; rw [List.getElem?_set_self h]
theorem zlongs_eq {xs : List Int64} (h : q < w.length) : zlongs (w.set q (.inr (.inl xs))) q = some xs := by unfold zlongs; rw [List.getElem?_set_self h]
theorem zobj_lt (h : zobj w q ci = some fs) : q < w.length := (List.getElem?_eq_some_iff.mp (zobj_at h)).1
theorem zints_lt (h : zints w q = some xs) : q < w.length := (List.getElem?_eq_some_iff.mp (zints_at h)).1
theorem zlongs_lt {xs : List Int64} (h : zlongs w q = some xs) : q < w.length := (List.getElem?_eq_some_iff.mp (zlongs_at h)).1
theorem ob_ints_ne (h1 : zobj w q ci = some fs) (h2 : zints w i = some xs) : q ≠ i := by
  rintro rfl
  have a := zobj_at h1
  rw [zints_at h2] at a
  cases a
theorem zobj_app {e : zW} (h : zobj w q ci = some fs) : zobj (w ++ e) q ci = some fs := by
  unfold zobj
  rw [List.getElem?_append_left (zobj_lt h), zobj_at h]
  simp
theorem zints_app {e : zW} (h : zints w q = some xs) : zints (w ++ e) q = some xs := by
  unfold zints
  rw [List.getElem?_append_left (zints_lt h), zints_at h]
theorem zlongs_app {e : zW} {xs : List Int64} (h : zlongs w q = some xs) : zlongs (w ++ e) q = some xs := by
  unfold zlongs
  rw [List.getElem?_append_left (zlongs_lt h), zlongs_at h]
theorem aget_of (h : zints w q = some xs) {k : Nat} {x : Int32} (hk : k < 2 ^ 31) (hx : xs[k]? = some x) : aget w q (nI k) = some x := by
  simp [aget, h, nI_pos hk, nI_clamp hk, hx]
theorem aset_of (h : zints w q = some xs) {k : Nat} (hk : k < xs.length) (hl : xs.length < 2 ^ 31) (x : Int32) : aset w q (nI k) x = some (w.set q (.inl (xs.set k x))) := by
  have h1 : k < 2 ^ 31 := by omega
  simp [aset, h, nI_pos h1, nI_clamp h1, hk]
theorem alen_of (h : zints w q = some xs) : alen w q = some (nI xs.length) := by simp [alen, h, nI]
theorem getI_of (h : zobj w q ci = some fs) {k : Nat} {x : Int32} (hx : fs[k]? = some (.inl x)) : getI w q ci k = some x := by simp [getI, h, hx, zfi]
theorem getR_of (h : zobj w q ci = some fs) {k x : Nat} (hx : fs[k]? = some (.inr (some x))) : getR w q ci k = some x := by simp [getR, h, hx, zfr]
theorem putI_of (h : zobj w q ci = some fs) {k : Nat} (hk : k < fs.length) (x : Int32) : putI w q ci k x = some (w.set q (.inr (.inr (.inr (ci, fs.set k (.inl x)))))) := by simp [putI, h, hk]
theorem putR_of (h : zobj w q ci = some fs) {k : Nat} (hk : k < fs.length) (x : Nat) : putR w q ci k x = some (w.set q (.inr (.inr (.inr (ci, fs.set k (.inr (some x))))))) := by simp [putR, h, hk]
end Lk
/-! Rows: r the object's place, a its array's. -/
def rowF (a n : Nat) (ov : Int32) : List zF := [.inr (some a), .inl (nI n), .inl ov]
def row (w : zW) (r a : Nat) (xs : List Int32) (n : Nat) (ov : Int32) : Prop := zobj w r 0 = some (rowF a n ov) ∧ zints w a = some xs ∧ n ≤ xs.length ∧ xs.length ≤ 1600
def setRow (w : zW) (r a : Nat) (xs : List Int32) (n : Nat) (ov : Int32) : zW := (w.set a (.inl xs)).set r (.inr (.inr (.inr (0, rowF a n ov))))
theorem row_ne {w : zW} {r a n : Nat} {xs : List Int32} {ov : Int32} (h : row w r a xs n ov) : r ≠ a := ob_ints_ne h.1 h.2.1
theorem setRow_row {w : zW} {r a n m : Nat} {xs ys : List Int32} {ov ow : Int32} (h : row w r a xs n ov) (h1 : m ≤ ys.length) (h2 : ys.length ≤ 1600) : row (setRow w r a ys m ow) r a ys m ow := by
  have hne := row_ne h
  refine ⟨?_, ?_, h1, h2⟩
  · exact zobj_eq (by rw [List.length_set]; exact zobj_lt h.1)
  · unfold setRow
    rw [zints_ne hne]
    exact zints_eq (zints_lt h.2.1)
theorem setRow_setRow {w : zW} {r a n m : Nat} {xs ys : List Int32} {ov ow : Int32} (hne : r ≠ a) : setRow (setRow w r a xs n ov) r a ys m ow = setRow w r a ys m ow := by
  unfold setRow
  rw [List.set_comm _ _ hne, List.set_set, List.set_set]
theorem setRow_self {w : zW} {r a n : Nat} {xs : List Int32} {ov : Int32} (h : row w r a xs n ov) : setRow w r a xs n ov = w := by
  unfold setRow
  have e1 : w.set a (.inl xs) = w := by
    apply List.ext_getElem?
    intro i
    by_cases hi : a = i
    · subst hi; rw [List.getElem?_set_self (zints_lt h.2.1), zints_at h.2.1]
    · rw [List.getElem?_set_ne hi]
  rw [e1]
  apply List.ext_getElem?
  intro i
  by_cases hi : r = i
  · subst hi; rw [List.getElem?_set_self (zobj_lt h.1), zobj_at h.1]
  · rw [List.getElem?_set_ne hi]
theorem row_get {w : zW} {r a n : Nat} {xs : List Int32} {ov : Int32} (h : row w r a xs n ov) : getI w r 0 1 = some (nI n) ∧ getR w r 0 0 = some a ∧ getI w r 0 2 = some ov ∧ alen w a = some (nI xs.length) :=
  ⟨getI_of h.1 rfl, getR_of h.1 rfl, getI_of h.1 rfl, alen_of h.2.1⟩
theorem s_append {w : zW} {r a n : Nat} {xs : List Int32} {ov : Int32} (F : Nat) (b : Int32) (h : row w r a xs n ov) : f_Row_append F r b w = some ((), if n < xs.length then setRow w r a (xs.set n b) (n + 1) ov else setRow w r a xs n 1) := by
  obtain ⟨g1, g2, g3, g4⟩ := row_get h
  have hl := h.2.2.2
  have hn := h.2.2.1
  have hne := row_ne h
  simp only [f_Row_append, b_Row_append_0, g1, g2, g4, Option.bind_some]
  by_cases hc : n < xs.length
  · rw [if_neg (nI_ge hc (by omega)), if_pos hc, aset_of h.2.1 hc (by omega)]
    simp only [Option.bind_some]
    have e1 : zobj (w.set a (.inl (xs.set n b))) r 0 = some (rowF a n ov) := by rw [zobj_ne (Ne.symm hne)]; exact h.1
    rw [getI_of e1 rfl, Option.bind_some, putI_of e1 (show 1 < 3 by decide), Option.bind_some]
    rw [nI_1]
    rfl
  · rw [if_pos (nI_le (by omega) (by omega)), if_neg hc, putI_of h.1 (show 2 < 3 by decide), Option.bind_some]
    have e2 : setRow w r a xs n 1 = w.set r (.inr (.inr (.inr (0, rowF a n 1)))) := by
      have e := setRow_self h
      unfold setRow at e ⊢
      have e1 : w.set a (.inl xs) = w := by
        apply List.ext_getElem?
        intro i
        by_cases hi : a = i
        · subst hi; rw [List.getElem?_set_self (zints_lt h.2.1), zints_at h.2.1]
        · rw [List.getElem?_set_ne hi]
      rw [e1]
    rw [e2]
    rfl
