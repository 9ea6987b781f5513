/-! What holds between two calls, over YW. Written by wip/whole/gen_inv.py. -/
def Sh (A : yA) : Prop := ∀ k, (A k).length = aL k
theorem Sh.ud {A : yA} {k : Nat} {xs : List Int32} (h : Sh A) (e : xs.length = (A k).length) : Sh (ud A k xs) := by
  intro j
  rw [ud_at]
  by_cases hj : j = k
  · rw [if_pos hj, hj, e]; exact h k
  · rw [if_neg hj]; exact h j
def CI (J : yJ) (A : yA) (B L : List Int32) (wd : Int32) : Prop := J 1 1 = nI B.length ∧ (A 2).take B.length = B ∧ J 3 1 = nI L.length ∧ (A 4).take L.length = L ∧ J 35 1 = wd
def MI (J : yJ) (A : yA) (B L : List Int32) (wd : Int32) : Prop := J 39 1 = nI B.length ∧ (A 40).take B.length = B ∧ J 39 3 = nI L.length ∧ (A 41).take L.length = L ∧ J 39 5 = wd ∧ A 47 = mOrd
def GI (B L : List Int32) (wd : Int32) : Prop := (wd = 0 ∨ wd = 1) ∧ B.length ≤ 200 ∧ L.length ≤ 1600 ∧ (∀ b ∈ B, isB b) ∧ ∀ b ∈ L, isB b
def Jof (w : zW) (o k : Nat) : Int32 := match w[o]? with
  | some (.inr (.inr (.inr (_, fs)))) => (match fs[k]? with
    | some (.inl x) => x
    | _ => 0)
  | _ => 0
def Aof (w : zW) (k : Nat) : List Int32 := if aL k = 0 then [] else (zints w k).getD []
theorem Jof_at {w : zW} {o ci k : Nat} {fs : List zF} {x : Int32} (h : zobj w o ci = some fs) (hx : fs[k]? = some (.inl x)) : Jof w o k = x := by
  unfold Jof
  rw [zobj_at h]
  simp only [hx]
theorem Aof_at {w : zW} {k : Nat} {xs : List Int32} (h : zints w k = some xs) (hk : aL k ≠ 0) : Aof w k = xs := by
  unfold Aof
  rw [if_neg hk, h]
  rfl
theorem drop_c {w : zW} {k k1 : Nat} {c : zC} (hk : k1 = k + 1) (h : w[k]? = some c) : w.drop k = c :: w.drop k1 := by
  obtain ⟨hl, e⟩ := List.getElem?_eq_some_iff.mp h
  rw [List.drop_eq_getElem_cons hl, e, hk]
theorem II_YW {w : zW} (h : II w) : ∃ J A s x Q B L wd, w = YW J A s (.inr (.inl [x]) :: Q) ∧ Sh A ∧ CI J A B L wd ∧ MI J A B L wd ∧ GI B L wd := by
  obtain ⟨B, L, wd, i, ⟨h0, ⟨o1, xs2, r1, t2, l2⟩, ⟨o3, xs4, r3, t4, l4⟩, h35, hSC⟩, ⟨h39, m1, m3, m5, ⟨xs40, h40, l40, t40⟩, ⟨xs41, h41, l41, t41⟩, hMS⟩, hw, hB, hL, bB, bL, ⟨x, hx⟩, h61⟩ := h
  obtain ⟨⟨n5, o5, h5, xs6, h6, l6⟩, ⟨n7, o7, h7, xs8, h8, l8⟩, ⟨n36, o36, h36, xs37, h37, l37⟩, ⟨p1, p2, p3, p4, h9⟩, ⟨s, u6, u7, h10⟩, ⟨h11, ⟨xs12, h12, l12⟩, ⟨xs13, h13, l13⟩, ⟨xs14, h14, l14⟩⟩, ⟨h15, ⟨xs16, h16, l16⟩, ⟨xs17, h17, l17⟩, ⟨xs18, h18, l18⟩⟩, ⟨h19, ⟨xs20, h20, l20⟩, ⟨xs21, h21, l21⟩, ⟨xs22, h22, l22⟩⟩, ⟨xs23, h23, l23⟩, ⟨a3, a4, a5, a6, h24⟩, ⟨e1, e2, e3, e4, h25⟩, h26, hen, ⟨f38, h38⟩⟩ := hSC
  obtain ⟨h47, ⟨xs42, h42, l42⟩, ⟨xs43, h43, l43⟩, ⟨xs44, h44, l44⟩, ⟨xs45, h45, l45⟩, ⟨xs46, h46, l46⟩, ⟨xs48, h48, l48⟩, ⟨xs49, h49, l49⟩, ⟨xs50, h50, l50⟩, ⟨xs51, h51, l51⟩, ⟨xs52, h52, l52⟩, ⟨xs53, h53, l53⟩, ⟨xs54, h54, l54⟩, ⟨xs55, h55, l55⟩, ⟨xs56, h56, l56⟩, ⟨xs57, h57, l57⟩, ⟨xs58, h58, l58⟩, ⟨xs59, h59, l59⟩⟩ := hMS
  obtain ⟨f27, h27⟩ := hen 0 (by decide)
  obtain ⟨f28, h28⟩ := hen 1 (by decide)
  obtain ⟨f29, h29⟩ := hen 2 (by decide)
  obtain ⟨f30, h30⟩ := hen 3 (by decide)
  obtain ⟨f31, h31⟩ := hen 4 (by decide)
  obtain ⟨f32, h32⟩ := hen 5 (by decide)
  obtain ⟨f33, h33⟩ := hen 6 (by decide)
  obtain ⟨f34, h34⟩ := hen 7 (by decide)
  have h1 := r1.1
  have h3 := r3.1
  have h2 := r1.2.1
  have h4 := r3.2.1
  have A2 : Aof w 2 = xs2 := Aof_at h2 (by decide)
  have A4 : Aof w 4 = xs4 := Aof_at h4 (by decide)
  have A6 : Aof w 6 = xs6 := Aof_at h6 (by decide)
  have A8 : Aof w 8 = xs8 := Aof_at h8 (by decide)
  have A12 : Aof w 12 = xs12 := Aof_at h12 (by decide)
  have A13 : Aof w 13 = xs13 := Aof_at h13 (by decide)
  have A14 : Aof w 14 = xs14 := Aof_at h14 (by decide)
  have A16 : Aof w 16 = xs16 := Aof_at h16 (by decide)
  have A17 : Aof w 17 = xs17 := Aof_at h17 (by decide)
  have A18 : Aof w 18 = xs18 := Aof_at h18 (by decide)
  have A20 : Aof w 20 = xs20 := Aof_at h20 (by decide)
  have A21 : Aof w 21 = xs21 := Aof_at h21 (by decide)
  have A22 : Aof w 22 = xs22 := Aof_at h22 (by decide)
  have A23 : Aof w 23 = xs23 := Aof_at h23 (by decide)
  have A37 : Aof w 37 = xs37 := Aof_at h37 (by decide)
  have A40 : Aof w 40 = xs40 := Aof_at h40 (by decide)
  have A41 : Aof w 41 = xs41 := Aof_at h41 (by decide)
  have A42 : Aof w 42 = xs42 := Aof_at h42 (by decide)
  have A43 : Aof w 43 = xs43 := Aof_at h43 (by decide)
  have A44 : Aof w 44 = xs44 := Aof_at h44 (by decide)
  have A45 : Aof w 45 = xs45 := Aof_at h45 (by decide)
  have A46 : Aof w 46 = xs46 := Aof_at h46 (by decide)
  have A47 : Aof w 47 = mOrd := Aof_at h47 (by decide)
  have A48 : Aof w 48 = xs48 := Aof_at h48 (by decide)
  have A49 : Aof w 49 = xs49 := Aof_at h49 (by decide)
  have A50 : Aof w 50 = xs50 := Aof_at h50 (by decide)
  have A51 : Aof w 51 = xs51 := Aof_at h51 (by decide)
  have A52 : Aof w 52 = xs52 := Aof_at h52 (by decide)
  have A53 : Aof w 53 = xs53 := Aof_at h53 (by decide)
  have A54 : Aof w 54 = xs54 := Aof_at h54 (by decide)
  have A55 : Aof w 55 = xs55 := Aof_at h55 (by decide)
  have A56 : Aof w 56 = xs56 := Aof_at h56 (by decide)
  have A57 : Aof w 57 = xs57 := Aof_at h57 (by decide)
  have A58 : Aof w 58 = xs58 := Aof_at h58 (by decide)
  have A59 : Aof w 59 = xs59 := Aof_at h59 (by decide)
  have d60 : w.drop 60 = .inr (.inl [x]) :: w.drop 61 := drop_c rfl (zlongs_at hx)
  refine ⟨Jof w, Aof w, s, x, w.drop 61, B, L, wd, ?_, ?_, ?_, ?_, ⟨hw, hB, hL, bB, bL⟩⟩
  · rw [← d60]
    have c0 : w[0]? = some (.inr (.inr (.inr (8, [.inr (some 1), .inr (some 3), .inr (some 5), .inr (some 7), .inr (some 9), .inr (some 10), .inr (some 24), .inr (some 35), .inr (some 38)])))) := zobj_at h0
    have c1 : w[1]? = some (.inr (.inr (.inr (0, [.inr (some 2), .inl (Jof w 1 1), .inl (Jof w 1 2)])))) := by
      rw [zobj_at h1, Jof_at (k := 1) h1 rfl, Jof_at (k := 2) h1 rfl]
      rfl
    have c2 : w[2]? = some (.inl (Aof w 2)) := by rw [zints_at h2, A2]
    have c3 : w[3]? = some (.inr (.inr (.inr (0, [.inr (some 4), .inl (Jof w 3 1), .inl (Jof w 3 2)])))) := by
      rw [zobj_at h3, Jof_at (k := 1) h3 rfl, Jof_at (k := 2) h3 rfl]
      rfl
    have c4 : w[4]? = some (.inl (Aof w 4)) := by rw [zints_at h4, A4]
    have c5 : w[5]? = some (.inr (.inr (.inr (0, [.inr (some 6), .inl (Jof w 5 1), .inl (Jof w 5 2)])))) := by
      rw [zobj_at h5, Jof_at (k := 1) h5 rfl, Jof_at (k := 2) h5 rfl]
    have c6 : w[6]? = some (.inl (Aof w 6)) := by rw [zints_at h6, A6]
    have c7 : w[7]? = some (.inr (.inr (.inr (0, [.inr (some 8), .inl (Jof w 7 1), .inl (Jof w 7 2)])))) := by
      rw [zobj_at h7, Jof_at (k := 1) h7 rfl, Jof_at (k := 2) h7 rfl]
    have c8 : w[8]? = some (.inl (Aof w 8)) := by rw [zints_at h8, A8]
    have c9 : w[9]? = some (.inr (.inr (.inr (3, [.inr (some 5), .inl (Jof w 9 1), .inl (Jof w 9 2), .inl (Jof w 9 3), .inl (Jof w 9 4)])))) := by
      rw [zobj_at h9, Jof_at (k := 1) h9 rfl, Jof_at (k := 2) h9 rfl, Jof_at (k := 3) h9 rfl, Jof_at (k := 4) h9 rfl]
    have c10 : w[10]? = some (.inr (.inr (.inr (5, [.inr (some 7), .inr (some 11), .inr (some 15), .inr (some 19), .inr (some 23), .inr (some s), .inl (Jof w 10 6), .inl (Jof w 10 7)])))) := by
      rw [zobj_at h10, Jof_at (k := 6) h10 rfl, Jof_at (k := 7) h10 rfl]
    have c11 : w[11]? = some (.inr (.inr (.inr (4, [.inr (some 12), .inr (some 13), .inr (some 14)])))) := zobj_at h11
    have c12 : w[12]? = some (.inl (Aof w 12)) := by rw [zints_at h12, A12]
    have c13 : w[13]? = some (.inl (Aof w 13)) := by rw [zints_at h13, A13]
    have c14 : w[14]? = some (.inl (Aof w 14)) := by rw [zints_at h14, A14]
    have c15 : w[15]? = some (.inr (.inr (.inr (4, [.inr (some 16), .inr (some 17), .inr (some 18)])))) := zobj_at h15
    have c16 : w[16]? = some (.inl (Aof w 16)) := by rw [zints_at h16, A16]
    have c17 : w[17]? = some (.inl (Aof w 17)) := by rw [zints_at h17, A17]
    have c18 : w[18]? = some (.inl (Aof w 18)) := by rw [zints_at h18, A18]
    have c19 : w[19]? = some (.inr (.inr (.inr (4, [.inr (some 20), .inr (some 21), .inr (some 22)])))) := zobj_at h19
    have c20 : w[20]? = some (.inl (Aof w 20)) := by rw [zints_at h20, A20]
    have c21 : w[21]? = some (.inl (Aof w 21)) := by rw [zints_at h21, A21]
    have c22 : w[22]? = some (.inl (Aof w 22)) := by rw [zints_at h22, A22]
    have c23 : w[23]? = some (.inl (Aof w 23)) := by rw [zints_at h23, A23]
    have c24 : w[24]? = some (.inr (.inr (.inr (6, [.inr (some 3), .inr (some 25), .inr (some 26), .inl (Jof w 24 3), .inl (Jof w 24 4), .inl (Jof w 24 5), .inl (Jof w 24 6)])))) := by
      rw [zobj_at h24, Jof_at (k := 3) h24 rfl, Jof_at (k := 4) h24 rfl, Jof_at (k := 5) h24 rfl, Jof_at (k := 6) h24 rfl]
    have c25 : w[25]? = some (.inr (.inr (.inr (2, [.inr (some 3), .inl (Jof w 25 1), .inl (Jof w 25 2), .inl (Jof w 25 3), .inl (Jof w 25 4)])))) := by
      rw [zobj_at h25, Jof_at (k := 1) h25 rfl, Jof_at (k := 2) h25 rfl, Jof_at (k := 3) h25 rfl, Jof_at (k := 4) h25 rfl]
    have c26 : w[26]? = some (.inr (.inr (.inl ents))) := zrefs_at h26
    have c27 : w[27]? = some (.inr (.inr (.inr (1, [.inl (Jof w 27 0), .inl (Jof w 27 1), .inl (Jof w 27 2), .inl (Jof w 27 3), .inl (Jof w 27 4), .inl (Jof w 27 5), .inl (Jof w 27 6), .inl (Jof w 27 7), .inl (Jof w 27 8)])))) := by
      rw [zobj_at h27, Jof_at (k := 0) h27 rfl, Jof_at (k := 1) h27 rfl, Jof_at (k := 2) h27 rfl, Jof_at (k := 3) h27 rfl, Jof_at (k := 4) h27 rfl, Jof_at (k := 5) h27 rfl, Jof_at (k := 6) h27 rfl, Jof_at (k := 7) h27 rfl, Jof_at (k := 8) h27 rfl]
      rfl
    have c28 : w[28]? = some (.inr (.inr (.inr (1, [.inl (Jof w 28 0), .inl (Jof w 28 1), .inl (Jof w 28 2), .inl (Jof w 28 3), .inl (Jof w 28 4), .inl (Jof w 28 5), .inl (Jof w 28 6), .inl (Jof w 28 7), .inl (Jof w 28 8)])))) := by
      rw [zobj_at h28, Jof_at (k := 0) h28 rfl, Jof_at (k := 1) h28 rfl, Jof_at (k := 2) h28 rfl, Jof_at (k := 3) h28 rfl, Jof_at (k := 4) h28 rfl, Jof_at (k := 5) h28 rfl, Jof_at (k := 6) h28 rfl, Jof_at (k := 7) h28 rfl, Jof_at (k := 8) h28 rfl]
      rfl
    have c29 : w[29]? = some (.inr (.inr (.inr (1, [.inl (Jof w 29 0), .inl (Jof w 29 1), .inl (Jof w 29 2), .inl (Jof w 29 3), .inl (Jof w 29 4), .inl (Jof w 29 5), .inl (Jof w 29 6), .inl (Jof w 29 7), .inl (Jof w 29 8)])))) := by
      rw [zobj_at h29, Jof_at (k := 0) h29 rfl, Jof_at (k := 1) h29 rfl, Jof_at (k := 2) h29 rfl, Jof_at (k := 3) h29 rfl, Jof_at (k := 4) h29 rfl, Jof_at (k := 5) h29 rfl, Jof_at (k := 6) h29 rfl, Jof_at (k := 7) h29 rfl, Jof_at (k := 8) h29 rfl]
      rfl
    have c30 : w[30]? = some (.inr (.inr (.inr (1, [.inl (Jof w 30 0), .inl (Jof w 30 1), .inl (Jof w 30 2), .inl (Jof w 30 3), .inl (Jof w 30 4), .inl (Jof w 30 5), .inl (Jof w 30 6), .inl (Jof w 30 7), .inl (Jof w 30 8)])))) := by
      rw [zobj_at h30, Jof_at (k := 0) h30 rfl, Jof_at (k := 1) h30 rfl, Jof_at (k := 2) h30 rfl, Jof_at (k := 3) h30 rfl, Jof_at (k := 4) h30 rfl, Jof_at (k := 5) h30 rfl, Jof_at (k := 6) h30 rfl, Jof_at (k := 7) h30 rfl, Jof_at (k := 8) h30 rfl]
      rfl
    have c31 : w[31]? = some (.inr (.inr (.inr (1, [.inl (Jof w 31 0), .inl (Jof w 31 1), .inl (Jof w 31 2), .inl (Jof w 31 3), .inl (Jof w 31 4), .inl (Jof w 31 5), .inl (Jof w 31 6), .inl (Jof w 31 7), .inl (Jof w 31 8)])))) := by
      rw [zobj_at h31, Jof_at (k := 0) h31 rfl, Jof_at (k := 1) h31 rfl, Jof_at (k := 2) h31 rfl, Jof_at (k := 3) h31 rfl, Jof_at (k := 4) h31 rfl, Jof_at (k := 5) h31 rfl, Jof_at (k := 6) h31 rfl, Jof_at (k := 7) h31 rfl, Jof_at (k := 8) h31 rfl]
      rfl
    have c32 : w[32]? = some (.inr (.inr (.inr (1, [.inl (Jof w 32 0), .inl (Jof w 32 1), .inl (Jof w 32 2), .inl (Jof w 32 3), .inl (Jof w 32 4), .inl (Jof w 32 5), .inl (Jof w 32 6), .inl (Jof w 32 7), .inl (Jof w 32 8)])))) := by
      rw [zobj_at h32, Jof_at (k := 0) h32 rfl, Jof_at (k := 1) h32 rfl, Jof_at (k := 2) h32 rfl, Jof_at (k := 3) h32 rfl, Jof_at (k := 4) h32 rfl, Jof_at (k := 5) h32 rfl, Jof_at (k := 6) h32 rfl, Jof_at (k := 7) h32 rfl, Jof_at (k := 8) h32 rfl]
      rfl
    have c33 : w[33]? = some (.inr (.inr (.inr (1, [.inl (Jof w 33 0), .inl (Jof w 33 1), .inl (Jof w 33 2), .inl (Jof w 33 3), .inl (Jof w 33 4), .inl (Jof w 33 5), .inl (Jof w 33 6), .inl (Jof w 33 7), .inl (Jof w 33 8)])))) := by
      rw [zobj_at h33, Jof_at (k := 0) h33 rfl, Jof_at (k := 1) h33 rfl, Jof_at (k := 2) h33 rfl, Jof_at (k := 3) h33 rfl, Jof_at (k := 4) h33 rfl, Jof_at (k := 5) h33 rfl, Jof_at (k := 6) h33 rfl, Jof_at (k := 7) h33 rfl, Jof_at (k := 8) h33 rfl]
      rfl
    have c34 : w[34]? = some (.inr (.inr (.inr (1, [.inl (Jof w 34 0), .inl (Jof w 34 1), .inl (Jof w 34 2), .inl (Jof w 34 3), .inl (Jof w 34 4), .inl (Jof w 34 5), .inl (Jof w 34 6), .inl (Jof w 34 7), .inl (Jof w 34 8)])))) := by
      rw [zobj_at h34, Jof_at (k := 0) h34 rfl, Jof_at (k := 1) h34 rfl, Jof_at (k := 2) h34 rfl, Jof_at (k := 3) h34 rfl, Jof_at (k := 4) h34 rfl, Jof_at (k := 5) h34 rfl, Jof_at (k := 6) h34 rfl, Jof_at (k := 7) h34 rfl, Jof_at (k := 8) h34 rfl]
      rfl
    have c35 : w[35]? = some (.inr (.inr (.inr (7, [.inr (some 36), .inl (Jof w 35 1)])))) := by
      rw [zobj_at h35, Jof_at (k := 1) h35 rfl]
    have c36 : w[36]? = some (.inr (.inr (.inr (0, [.inr (some 37), .inl (Jof w 36 1), .inl (Jof w 36 2)])))) := by
      rw [zobj_at h36, Jof_at (k := 1) h36 rfl, Jof_at (k := 2) h36 rfl]
    have c37 : w[37]? = some (.inl (Aof w 37)) := by rw [zints_at h37, A37]
    have c38 : w[38]? = some (.inr (.inr (.inr (1, [.inl (Jof w 38 0), .inl (Jof w 38 1), .inl (Jof w 38 2), .inl (Jof w 38 3), .inl (Jof w 38 4), .inl (Jof w 38 5), .inl (Jof w 38 6), .inl (Jof w 38 7), .inl (Jof w 38 8)])))) := by
      rw [zobj_at h38, Jof_at (k := 0) h38 rfl, Jof_at (k := 1) h38 rfl, Jof_at (k := 2) h38 rfl, Jof_at (k := 3) h38 rfl, Jof_at (k := 4) h38 rfl, Jof_at (k := 5) h38 rfl, Jof_at (k := 6) h38 rfl, Jof_at (k := 7) h38 rfl, Jof_at (k := 8) h38 rfl]
      rfl
    have c39 : w[39]? = some (.inr (.inr (.inr (9, [.inl (Jof w 39 0), .inl (Jof w 39 1), .inr (some 40), .inl (Jof w 39 3), .inr (some 41), .inl (Jof w 39 5), .inl (Jof w 39 6), .inr (some 42), .inl (Jof w 39 8), .inr (some 43), .inl (Jof w 39 10), .inl (Jof w 39 11), .inr (some 44), .inr (some 45), .inr (some 46), .inr (some 47), .inl (Jof w 39 16), .inl (Jof w 39 17), .inl (Jof w 39 18), .inl (Jof w 39 19), .inr (some 48), .inr (some 49), .inr (some 50), .inr (some 51), .inr (some 52), .inr (some 53), .inr (some 54), .inr (some 55), .inr (some 56), .inr (some 57), .inr (some 58), .inl (Jof w 39 31), .inr (some 59)])))) := by
      rw [zobj_at h39, Jof_at (k := 0) h39 rfl, Jof_at (k := 1) h39 rfl, Jof_at (k := 3) h39 rfl, Jof_at (k := 5) h39 rfl, Jof_at (k := 6) h39 rfl, Jof_at (k := 8) h39 rfl, Jof_at (k := 10) h39 rfl, Jof_at (k := 11) h39 rfl, Jof_at (k := 16) h39 rfl, Jof_at (k := 17) h39 rfl, Jof_at (k := 18) h39 rfl, Jof_at (k := 19) h39 rfl, Jof_at (k := 31) h39 rfl]
      rfl
    have c40 : w[40]? = some (.inl (Aof w 40)) := by rw [zints_at h40, A40]
    have c41 : w[41]? = some (.inl (Aof w 41)) := by rw [zints_at h41, A41]
    have c42 : w[42]? = some (.inl (Aof w 42)) := by rw [zints_at h42, A42]
    have c43 : w[43]? = some (.inl (Aof w 43)) := by rw [zints_at h43, A43]
    have c44 : w[44]? = some (.inl (Aof w 44)) := by rw [zints_at h44, A44]
    have c45 : w[45]? = some (.inl (Aof w 45)) := by rw [zints_at h45, A45]
    have c46 : w[46]? = some (.inl (Aof w 46)) := by rw [zints_at h46, A46]
    have c47 : w[47]? = some (.inl (Aof w 47)) := by rw [zints_at h47, A47]
    have c48 : w[48]? = some (.inl (Aof w 48)) := by rw [zints_at h48, A48]
    have c49 : w[49]? = some (.inl (Aof w 49)) := by rw [zints_at h49, A49]
    have c50 : w[50]? = some (.inl (Aof w 50)) := by rw [zints_at h50, A50]
    have c51 : w[51]? = some (.inl (Aof w 51)) := by rw [zints_at h51, A51]
    have c52 : w[52]? = some (.inl (Aof w 52)) := by rw [zints_at h52, A52]
    have c53 : w[53]? = some (.inl (Aof w 53)) := by rw [zints_at h53, A53]
    have c54 : w[54]? = some (.inl (Aof w 54)) := by rw [zints_at h54, A54]
    have c55 : w[55]? = some (.inl (Aof w 55)) := by rw [zints_at h55, A55]
    have c56 : w[56]? = some (.inl (Aof w 56)) := by rw [zints_at h56, A56]
    have c57 : w[57]? = some (.inl (Aof w 57)) := by rw [zints_at h57, A57]
    have c58 : w[58]? = some (.inl (Aof w 58)) := by rw [zints_at h58, A58]
    have c59 : w[59]? = some (.inl (Aof w 59)) := by rw [zints_at h59, A59]
    unfold YW
    rw [← drop_c (k := 59) (k1 := 60) rfl c59, ← drop_c (k := 58) (k1 := 59) rfl c58, ← drop_c (k := 57) (k1 := 58) rfl c57, ← drop_c (k := 56) (k1 := 57) rfl c56, ← drop_c (k := 55) (k1 := 56) rfl c55, ← drop_c (k := 54) (k1 := 55) rfl c54, ← drop_c (k := 53) (k1 := 54) rfl c53, ← drop_c (k := 52) (k1 := 53) rfl c52, ← drop_c (k := 51) (k1 := 52) rfl c51, ← drop_c (k := 50) (k1 := 51) rfl c50, ← drop_c (k := 49) (k1 := 50) rfl c49, ← drop_c (k := 48) (k1 := 49) rfl c48, ← drop_c (k := 47) (k1 := 48) rfl c47, ← drop_c (k := 46) (k1 := 47) rfl c46, ← drop_c (k := 45) (k1 := 46) rfl c45, ← drop_c (k := 44) (k1 := 45) rfl c44, ← drop_c (k := 43) (k1 := 44) rfl c43, ← drop_c (k := 42) (k1 := 43) rfl c42, ← drop_c (k := 41) (k1 := 42) rfl c41, ← drop_c (k := 40) (k1 := 41) rfl c40, ← drop_c (k := 39) (k1 := 40) rfl c39, ← drop_c (k := 38) (k1 := 39) rfl c38, ← drop_c (k := 37) (k1 := 38) rfl c37, ← drop_c (k := 36) (k1 := 37) rfl c36, ← drop_c (k := 35) (k1 := 36) rfl c35, ← drop_c (k := 34) (k1 := 35) rfl c34, ← drop_c (k := 33) (k1 := 34) rfl c33, ← drop_c (k := 32) (k1 := 33) rfl c32, ← drop_c (k := 31) (k1 := 32) rfl c31, ← drop_c (k := 30) (k1 := 31) rfl c30, ← drop_c (k := 29) (k1 := 30) rfl c29, ← drop_c (k := 28) (k1 := 29) rfl c28, ← drop_c (k := 27) (k1 := 28) rfl c27, ← drop_c (k := 26) (k1 := 27) rfl c26, ← drop_c (k := 25) (k1 := 26) rfl c25, ← drop_c (k := 24) (k1 := 25) rfl c24, ← drop_c (k := 23) (k1 := 24) rfl c23, ← drop_c (k := 22) (k1 := 23) rfl c22, ← drop_c (k := 21) (k1 := 22) rfl c21, ← drop_c (k := 20) (k1 := 21) rfl c20, ← drop_c (k := 19) (k1 := 20) rfl c19, ← drop_c (k := 18) (k1 := 19) rfl c18, ← drop_c (k := 17) (k1 := 18) rfl c17, ← drop_c (k := 16) (k1 := 17) rfl c16, ← drop_c (k := 15) (k1 := 16) rfl c15, ← drop_c (k := 14) (k1 := 15) rfl c14, ← drop_c (k := 13) (k1 := 14) rfl c13, ← drop_c (k := 12) (k1 := 13) rfl c12, ← drop_c (k := 11) (k1 := 12) rfl c11, ← drop_c (k := 10) (k1 := 11) rfl c10, ← drop_c (k := 9) (k1 := 10) rfl c9, ← drop_c (k := 8) (k1 := 9) rfl c8, ← drop_c (k := 7) (k1 := 8) rfl c7, ← drop_c (k := 6) (k1 := 7) rfl c6, ← drop_c (k := 5) (k1 := 6) rfl c5, ← drop_c (k := 4) (k1 := 5) rfl c4, ← drop_c (k := 3) (k1 := 4) rfl c3, ← drop_c (k := 2) (k1 := 3) rfl c2, ← drop_c (k := 1) (k1 := 2) rfl c1, ← drop_c (k := 0) (k1 := 1) rfl c0]
    rfl
  · intro k
    by_cases h0 : aL k = 0
    · unfold Aof; rw [if_pos h0, h0]; rfl
    by_cases q2 : k = 2
    · subst q2; rw [A2]; exact l2
    by_cases q4 : k = 4
    · subst q4; rw [A4]; exact l4
    by_cases q6 : k = 6
    · subst q6; rw [A6]; exact l6
    by_cases q8 : k = 8
    · subst q8; rw [A8]; exact l8
    by_cases q12 : k = 12
    · subst q12; rw [A12]; exact l12
    by_cases q13 : k = 13
    · subst q13; rw [A13]; exact l13
    by_cases q14 : k = 14
    · subst q14; rw [A14]; exact l14
    by_cases q16 : k = 16
    · subst q16; rw [A16]; exact l16
    by_cases q17 : k = 17
    · subst q17; rw [A17]; exact l17
    by_cases q18 : k = 18
    · subst q18; rw [A18]; exact l18
    by_cases q20 : k = 20
    · subst q20; rw [A20]; exact l20
    by_cases q21 : k = 21
    · subst q21; rw [A21]; exact l21
    by_cases q22 : k = 22
    · subst q22; rw [A22]; exact l22
    by_cases q23 : k = 23
    · subst q23; rw [A23]; exact l23
    by_cases q37 : k = 37
    · subst q37; rw [A37]; exact l37
    by_cases q40 : k = 40
    · subst q40; rw [A40]; exact l40
    by_cases q41 : k = 41
    · subst q41; rw [A41]; exact l41
    by_cases q42 : k = 42
    · subst q42; rw [A42]; exact l42
    by_cases q43 : k = 43
    · subst q43; rw [A43]; exact l43
    by_cases q44 : k = 44
    · subst q44; rw [A44]; exact l44
    by_cases q45 : k = 45
    · subst q45; rw [A45]; exact l45
    by_cases q46 : k = 46
    · subst q46; rw [A46]; exact l46
    by_cases q47 : k = 47
    · subst q47; rw [A47]; exact rfl
    by_cases q48 : k = 48
    · subst q48; rw [A48]; exact l48
    by_cases q49 : k = 49
    · subst q49; rw [A49]; exact l49
    by_cases q50 : k = 50
    · subst q50; rw [A50]; exact l50
    by_cases q51 : k = 51
    · subst q51; rw [A51]; exact l51
    by_cases q52 : k = 52
    · subst q52; rw [A52]; exact l52
    by_cases q53 : k = 53
    · subst q53; rw [A53]; exact l53
    by_cases q54 : k = 54
    · subst q54; rw [A54]; exact l54
    by_cases q55 : k = 55
    · subst q55; rw [A55]; exact l55
    by_cases q56 : k = 56
    · subst q56; rw [A56]; exact l56
    by_cases q57 : k = 57
    · subst q57; rw [A57]; exact l57
    by_cases q58 : k = 58
    · subst q58; rw [A58]; exact l58
    by_cases q59 : k = 59
    · subst q59; rw [A59]; exact l59
    exact absurd (by unfold aL; simp [q2, q4, q6, q8, q12, q13, q14, q16, q17, q18, q20, q21, q22, q23, q37, q40, q41, q42, q43, q44, q45, q46, q47, q48, q49, q50, q51, q52, q53, q54, q55, q56, q57, q58, q59]) h0
  · refine ⟨Jof_at (k := 1) h1 rfl, ?_, Jof_at (k := 1) h3 rfl, ?_, Jof_at (k := 1) h35 rfl⟩
    · rw [A2]; exact t2
    · rw [A4]; exact t4
  · refine ⟨(Jof_at (k := 1) h39 rfl).trans m1, ?_, (Jof_at (k := 3) h39 rfl).trans m3, ?_, (Jof_at (k := 5) h39 rfl).trans m5, A47⟩
    · rw [A40]; exact t40
    · rw [A41]; exact t41
theorem YW_II {J : yJ} {A : yA} {s : Nat} {x : Int64} {Q : zW} {B L : List Int32} {wd : Int32} (hS : Sh A) (hC : CI J A B L wd) (hM : MI J A B L wd) (hG : GI B L wd) : II (YW J A s (.inr (.inl [x]) :: Q)) := by
  obtain ⟨c1, c2, c3, c4, c5⟩ := hC
  obtain ⟨m1, m2, m3, m4, m5, m6⟩ := hM
  obtain ⟨g1, g2, g3, g4, g5⟩ := hG
  have iN : ∀ k, aL k ≠ 0 → intsN (YW J A s (.inr (.inl [x]) :: Q)) k (aL k) := fun k hk => ⟨A k, wi_a _ _ _ _ hk, hS k⟩
  have rr : ∀ (r a cap : Nat) (C : List Int32), zobj (YW J A s (.inr (.inl [x]) :: Q)) r 0 = some [.inr (some a), .inl (J r 1), .inl (J r 2)] → aL a = cap → cap ≠ 0 → cap ≤ 1600 → J r 1 = nI C.length → (A a).take C.length = C → rw_ (YW J A s (.inr (.inl [x]) :: Q)) r a cap C (J r 2) := by
    intro r a cap C k1 k2 k3 k4 k5 k6
    have hl : (A a).length = cap := (hS a).trans k2
    refine ⟨A a, ⟨?_, wi_a _ _ _ _ (by rw [k2]; exact k3), ?_, by omega⟩, k6, hl⟩
    · rw [k1, k5]; rfl
    · have := congrArg List.length k6
      rw [List.length_take] at this
      omega
  refine ⟨B, L, wd, J 39, ⟨rfl, ⟨J 1 2, rr 1 2 200 B rfl rfl (by decide) (by decide) c1 c2⟩, ⟨J 3 2, rr 3 4 1600 L rfl rfl (by decide) (by decide) c3 c4⟩, ?_, ?_⟩, ⟨rfl, m1, m3, m5, ⟨A 40, rfl, hS 40, m2⟩, ⟨A 41, rfl, hS 41, m4⟩, ?_⟩, g1, g2, g3, g4, g5, ⟨x, rfl⟩, by rw [YW_len, List.length_cons]; omega⟩
  · rw [← c5]; rfl
  · refine ⟨⟨_, _, rfl, iN 6 (by decide)⟩, ⟨_, _, rfl, iN 8 (by decide)⟩, ⟨_, _, rfl, iN 37 (by decide)⟩, ⟨_, _, _, _, rfl⟩, ⟨_, _, _, rfl⟩, ⟨rfl, iN 12 (by decide), iN 13 (by decide), iN 14 (by decide)⟩, ⟨rfl, iN 16 (by decide), iN 17 (by decide), iN 18 (by decide)⟩, ⟨rfl, iN 20 (by decide), iN 21 (by decide), iN 22 (by decide)⟩, iN 23 (by decide), ⟨_, _, _, _, rfl⟩, ⟨_, _, _, _, rfl⟩, rfl, fun k hk => ⟨_, we_o _ _ _ _ hk⟩, ⟨J 38, rfl⟩⟩
  · refine ⟨?_, iN 42 (by decide), iN 43 (by decide), iN 44 (by decide), iN 45 (by decide), iN 46 (by decide), iN 48 (by decide), iN 49 (by decide), iN 50 (by decide), iN 51 (by decide), iN 52 (by decide), iN 53 (by decide), iN 54 (by decide), iN 55 (by decide), iN 56 (by decide), iN 57 (by decide), iN 58 (by decide), iN 59 (by decide)⟩
    rw [← m6]; rfl
