/-! The two sides of a world: what the class holds (places 0 to 38), what the reference holds (39 to 59), the law's own array (60). -/
def zipF : List zF := [.inr (some 1), .inr (some 3), .inr (some 5), .inr (some 7), .inr (some 9), .inr (some 10), .inr (some 24), .inr (some 35), .inr (some 38)]
def entF (f : Nat → Int32) : List zF := [.inl (f 0), .inl (f 1), .inl (f 2), .inl (f 3), .inl (f 4), .inl (f 5), .inl (f 6), .inl (f 7), .inl (f 8)]
def ents : List (Option Nat) := [some 27, some 28, some 29, some 30, some 31, some 32, some 33, some 34]
def intsN (w : zW) (q n : Nat) : Prop := ∃ xs, zints w q = some xs ∧ xs.length = n
/-- the class's scratch: of the right shape, whatever it holds -/
def SC (w : zW) : Prop :=
  (∃ n ov, zobj w 5 0 = some [.inr (some 6), .inl n, .inl ov] ∧ intsN w 6 227) ∧ (∃ n ov, zobj w 7 0 = some [.inr (some 8), .inl n, .inl ov] ∧ intsN w 8 200) ∧ (∃ n ov, zobj w 36 0 = some [.inr (some 37), .inl n, .inl ov] ∧ intsN w 37 1600) ∧
  (∃ b c l d, zobj w 9 3 = some [.inr (some 5), .inl b, .inl c, .inl l, .inl d]) ∧
  (∃ r p e, zobj w 10 5 = some [.inr (some 7), .inr (some 11), .inr (some 15), .inr (some 19), .inr (some 23), .inr (some r), .inl p, .inl e]) ∧
  (zobj w 11 4 = some [.inr (some 12), .inr (some 13), .inr (some 14)] ∧ intsN w 12 16 ∧ intsN w 13 19 ∧ intsN w 14 16) ∧
  (zobj w 15 4 = some [.inr (some 16), .inr (some 17), .inr (some 18)] ∧ intsN w 16 16 ∧ intsN w 17 288 ∧ intsN w 18 16) ∧
  (zobj w 19 4 = some [.inr (some 20), .inr (some 21), .inr (some 22)] ∧ intsN w 20 16 ∧ intsN w 21 32 ∧ intsN w 22 16) ∧ intsN w 23 320 ∧
  (∃ c s e m, zobj w 24 6 = some [.inr (some 3), .inr (some 25), .inr (some 26), .inl c, .inl s, .inl e, .inl m]) ∧
  (∃ a b c d, zobj w 25 2 = some [.inr (some 3), .inl a, .inl b, .inl c, .inl d]) ∧ zrefs w 26 = some ents ∧
  (∀ k, k < 8 → ∃ f, zobj w (27 + k) 1 = some (entF f)) ∧ ∃ f, zobj w 38 1 = some (entF f)
theorem at_obj {w w' : zW} {q ci : Nat} (h : w'[q]? = w[q]?) : zobj w' q ci = zobj w q ci := by unfold zobj; rw [h]
theorem at_ints {w w' : zW} {q : Nat} (h : w'[q]? = w[q]?) : zints w' q = zints w q := by unfold zints; rw [h]
theorem at_longs {w w' : zW} {q : Nat} (h : w'[q]? = w[q]?) : zlongs w' q = zlongs w q := by unfold zlongs; rw [h]
theorem at_refs {w w' : zW} {q : Nat} (h : w'[q]? = w[q]?) : zrefs w' q = zrefs w q := by unfold zrefs; rw [h]
theorem at_rw {w w' : zW} {r a cap : Nat} {B : List Int32} {ov : Int32} (hr : w'[r]? = w[r]?) (ha : w'[a]? = w[a]?) (h : rw_ w r a cap B ov) : rw_ w' r a cap B ov := by
  obtain ⟨xs, ⟨h1, h2, h3⟩, h4⟩ := h
  exact ⟨xs, ⟨(at_obj hr).trans h1, (at_ints ha).trans h2, h3⟩, h4⟩
theorem SC_at {w w' : zW} (h : ∀ j, 5 ≤ j → j < 39 → j ≠ 35 → w'[j]? = w[j]?) (hs : SC w) : SC w' := by
  obtain ⟨⟨B1, o1, a1, b1⟩, ⟨B2, o2, a2, b2⟩, ⟨B3, o3, a3, b3⟩, ⟨b, c, l, d, a4⟩, ⟨r, p, e, a5⟩, ⟨c1, c2, c3, c4⟩, ⟨d1, d2, d3, d4⟩, ⟨e1, e2, e3, e4⟩, ln, ⟨g1, g2, g3, g4, ga⟩, ⟨x1, x2, x3, x4, xa⟩, rf, en, ⟨f, fr⟩⟩ := hs
  have iN : ∀ q n, 5 ≤ q → q < 39 → q ≠ 35 → intsN w q n → intsN w' q n := fun q n h1 h2 h3 ⟨xs, k1, k2⟩ => ⟨xs, (at_ints (h q h1 h2 h3)).trans k1, k2⟩
  have hh : ∀ q, 5 ≤ q ∧ q < 39 ∧ q ≠ 35 → w'[q]? = w[q]? := fun q k => h q k.1 k.2.1 k.2.2
  refine ⟨⟨B1, o1, (at_obj (hh 5 (by decide))).trans a1, iN _ _ (by decide) (by decide) (by decide) b1⟩, ⟨B2, o2, (at_obj (hh 7 (by decide))).trans a2, iN _ _ (by decide) (by decide) (by decide) b2⟩, ⟨B3, o3, (at_obj (hh 36 (by decide))).trans a3, iN _ _ (by decide) (by decide) (by decide) b3⟩, ⟨b, c, l, d, (at_obj (hh 9 (by decide))).trans a4⟩, ⟨r, p, e, (at_obj (hh 10 (by decide))).trans a5⟩,
    ⟨(at_obj (hh 11 (by decide))).trans c1, iN _ _ (by decide) (by decide) (by decide) c2, iN _ _ (by decide) (by decide) (by decide) c3, iN _ _ (by decide) (by decide) (by decide) c4⟩,
    ⟨(at_obj (hh 15 (by decide))).trans d1, iN _ _ (by decide) (by decide) (by decide) d2, iN _ _ (by decide) (by decide) (by decide) d3, iN _ _ (by decide) (by decide) (by decide) d4⟩,
    ⟨(at_obj (hh 19 (by decide))).trans e1, iN _ _ (by decide) (by decide) (by decide) e2, iN _ _ (by decide) (by decide) (by decide) e3, iN _ _ (by decide) (by decide) (by decide) e4⟩, iN _ _ (by decide) (by decide) (by decide) ln,
    ⟨g1, g2, g3, g4, (at_obj (hh 24 (by decide))).trans ga⟩, ⟨x1, x2, x3, x4, (at_obj (hh 25 (by decide))).trans xa⟩, (at_refs (hh 26 (by decide))).trans rf, fun k hk => ?_, ⟨f, (at_obj (hh 38 (by decide))).trans fr⟩⟩
  obtain ⟨f, hf⟩ := en k hk
  exact ⟨f, (at_obj (h (27 + k) (by omega) (by omega) (by omega))).trans hf⟩
/-- a byte -/
def isB (b : Int32) : Prop := ∃ k : Nat, k < 256 ∧ b = nI k
/-- the class holds the buffer B, the file L, and writes wide if wd is 1 -/
def CR (w : zW) (B L : List Int32) (wd : Int32) : Prop := zobj w 0 8 = some zipF ∧ (∃ ov, rw_ w 1 2 200 B ov) ∧ (∃ ov, rw_ w 3 4 1600 L ov) ∧ zobj w 35 7 = some [.inr (some 36), .inl wd] ∧ SC w

def mkM (i : Nat → Int32) : List zF := [.inl (i 0), .inl (i 1), .inr (some 40), .inl (i 3), .inr (some 41), .inl (i 5), .inl (i 6), .inr (some 42), .inl (i 8), .inr (some 43), .inl (i 10), .inl (i 11), .inr (some 44), .inr (some 45), .inr (some 46), .inr (some 47), .inl (i 16), .inl (i 17), .inl (i 18), .inl (i 19), .inr (some 48), .inr (some 49), .inr (some 50), .inr (some 51), .inr (some 52), .inr (some 53), .inr (some 54), .inr (some 55), .inr (some 56), .inr (some 57), .inr (some 58), .inl (i 31), .inr (some 59)]
def mOrd : List Int32 := [16, 17, 18, 0, 8, 7, 9, 6, 10, 5, 11, 4, 12, 3, 13, 2, 14, 1, 15]
/-- the reference's scratch -/
def MS (w : zW) : Prop := zints w 47 = some mOrd ∧ intsN w 42 400 ∧ intsN w 43 1600 ∧ intsN w 44 339 ∧ intsN w 45 339 ∧ intsN w 46 320 ∧ intsN w 48 8 ∧ intsN w 49 8 ∧ intsN w 50 8 ∧ intsN w 51 8 ∧ intsN w 52 8 ∧ intsN w 53 8 ∧ intsN w 54 8 ∧ intsN w 55 8 ∧ intsN w 56 8 ∧ intsN w 57 8 ∧ intsN w 58 8 ∧ intsN w 59 1700
theorem MS_at {w w' : zW} (h : ∀ j, 42 ≤ j → j < 60 → w'[j]? = w[j]?) (hs : MS w) : MS w' := by
  have iN : ∀ q n, 42 ≤ q → q < 60 → intsN w q n → intsN w' q n := fun q n h1 h2 ⟨xs, k1, k2⟩ => ⟨xs, (at_ints (h q h1 h2)).trans k1, k2⟩
  obtain ⟨a0, a42, a43, a44, a45, a46, a48, a49, a50, a51, a52, a53, a54, a55, a56, a57, a58, a59⟩ := hs
  exact ⟨(at_ints (h 47 (by decide) (by decide))).trans a0, iN _ _ (by decide) (by decide) a42, iN _ _ (by decide) (by decide) a43, iN _ _ (by decide) (by decide) a44, iN _ _ (by decide) (by decide) a45, iN _ _ (by decide) (by decide) a46, iN _ _ (by decide) (by decide) a48, iN _ _ (by decide) (by decide) a49, iN _ _ (by decide) (by decide) a50, iN _ _ (by decide) (by decide) a51, iN _ _ (by decide) (by decide) a52, iN _ _ (by decide) (by decide) a53, iN _ _ (by decide) (by decide) a54, iN _ _ (by decide) (by decide) a55, iN _ _ (by decide) (by decide) a56, iN _ _ (by decide) (by decide) a57, iN _ _ (by decide) (by decide) a58, iN _ _ (by decide) (by decide) a59⟩
/-- the reference holds the same; its int fields are i -/
def MR (w : zW) (B L : List Int32) (wd : Int32) (i : Nat → Int32) : Prop := zobj w 39 9 = some (mkM i) ∧ i 1 = nI B.length ∧ i 3 = nI L.length ∧ i 5 = wd ∧ (∃ xs, zints w 40 = some xs ∧ xs.length = 200 ∧ xs.take B.length = B) ∧ (∃ ys, zints w 41 = some ys ∧ ys.length = 1600 ∧ ys.take L.length = L) ∧ MS w
/-- what holds between two calls -/
def II (w : zW) : Prop := ∃ (B L : List Int32) (wd : Int32) (i : Nat → Int32), CR w B L wd ∧ MR w B L wd i ∧ (wd = 0 ∨ wd = 1) ∧ B.length ≤ 200 ∧ L.length ≤ 1600 ∧ (∀ b ∈ B, isB b) ∧ (∀ b ∈ L, isB b) ∧ (∃ x, zlongs w 60 = some [x]) ∧ 61 ≤ w.length
theorem CR_at {w w' : zW} {B L : List Int32} {wd : Int32} (h : ∀ j, j < 39 → w'[j]? = w[j]?) (hc : CR w B L wd) : CR w' B L wd := by
  obtain ⟨h1, ⟨o2, h2⟩, ⟨o3, h3⟩, h4, h5⟩ := hc
  exact ⟨(at_obj (h 0 (by decide))).trans h1, ⟨o2, at_rw (h 1 (by decide)) (h 2 (by decide)) h2⟩, ⟨o3, at_rw (h 3 (by decide)) (h 4 (by decide)) h3⟩, (at_obj (h 35 (by decide))).trans h4, SC_at (fun j _ h2 _ => h j h2) h5⟩
theorem MR_at {w w' : zW} {B L : List Int32} {wd : Int32} {i : Nat → Int32} (h : ∀ j, 39 ≤ j → j < 60 → w'[j]? = w[j]?) (hm : MR w B L wd i) : MR w' B L wd i := by
  obtain ⟨h1, h2, h3, h4, ⟨xs, h5, h6⟩, ⟨ys, h7, h8⟩, h9⟩ := hm
  exact ⟨(at_obj (h 39 (by decide) (by decide))).trans h1, h2, h3, h4, ⟨xs, (at_ints (h 40 (by decide) (by decide))).trans h5, h6⟩, ⟨ys, (at_ints (h 41 (by decide) (by decide))).trans h7, h8⟩, MS_at (fun j k1 k2 => h j (by omega) k2) h9⟩
