/-! Bits and symbols read, by the class and by the reference. -/
def btS (C : List Int32) (p : Nat) : Nat := bN (C.getD (p / 8) 0) / 2 ^ (p % 8) % 2
def bvS (C : List Int32) (p : Nat) : Nat → Nat
  | 0 => 0
  | n + 1 => bvS C p n + btS C (p + n) * 2 ^ n
def tkS (C : List Int32) (p n : Nat) : Option (Nat × Nat) := if p + n ≤ 8 * C.length then some (bvS C p n, p + n) else none
def syS (ls : List Nat) (C : List Int32) : Nat → Nat → Nat → Nat → Option (Nat × Nat)
  | 0, _, _, _ => none
  | m + 1, l, v, p => if p < 8 * C.length then (match kN ls l (2 * v + btS C p) ls.length 0 with
    | some k => some (k, p + 1)
    | none => syS ls C m (l + 1) (2 * v + btS C p) (p + 1)) else none
def symS (ls : List Nat) (C : List Int32) (p : Nat) : Option (Nat × Nat) := syS ls C 15 1 0 p
theorem btS_lt (C : List Int32) (p : Nat) : btS C p < 2 := Nat.mod_lt _ (by decide)
theorem bvS_lt (C : List Int32) (p : Nat) : ∀ n, bvS C p n < 2 ^ n
  | 0 => by show 0 < 1; decide
  | n + 1 => by
    have h1 := bvS_lt C p n
    have h2 := btS_lt C (p + n)
    show bvS C p n + btS C (p + n) * 2 ^ n < 2 ^ (n + 1)
    have : btS C (p + n) * 2 ^ n ≤ 1 * 2 ^ n := Nat.mul_le_mul_right _ (by omega)
    rw [Nat.pow_succ]
    omega
theorem tkS_lt {C : List Int32} {p n v q : Nat} (h : tkS C p n = some (v, q)) : v < 2 ^ n ∧ q = p + n ∧ q ≤ 8 * C.length := by
  unfold tkS at h
  split at h
  · cases h; exact ⟨bvS_lt C p n, rfl, by assumption⟩
  · cases h
theorem syS_lt {ls : List Nat} {C : List Int32} : ∀ {m l v p k q : Nat}, syS ls C m l v p = some (k, q) → k < ls.length ∧ p < q ∧ q ≤ 8 * C.length
  | 0, _, _, _, _, _, h => by cases h
  | m + 1, l, v, p, k, q, h => by
    unfold syS at h
    split at h
    · rename_i hp
      split at h
      · rename_i j hj
        cases h
        exact ⟨fn_lt _ _ (by omega) hj, by omega, by omega⟩
      · have := syS_lt h
        exact ⟨this.1, by omega, this.2.2⟩
    · cases h
theorem symS_lt {ls : List Nat} {C : List Int32} {p k q : Nat} (h : symS ls C p = some (k, q)) : k < ls.length ∧ p < q ∧ q ≤ 8 * C.length := syS_lt h
theorem orD {a b k : Nat} (ha : a < 2 ^ k) (h : a + b * 2 ^ k < 2 ^ 31) : nI a ||| nI (b * 2 ^ k) = nI (a + b * 2 ^ k) := by
  apply Int32.toBitVec_inj.mp
  rw [Int32.toBitVec_or]
  apply BitVec.eq_of_toNat_eq
  rw [BitVec.toNat_or, pk_tn (by omega), pk_tn (by omega), pk_tn (by omega), Nat.mul_comm b, Nat.or_comm, Nat.add_comm, Nat.two_pow_add_eq_or_of_lt ha]
theorem nI_mod {a d : Nat} (ha : a < 2 ^ 31) (h0 : 0 < d) (hd : d < 2 ^ 31) : nI a % nI d = nI (a % d) := by
  apply Int32.toInt_inj.mp
  have hm : a % d < d := Nat.mod_lt _ h0
  rw [Int32.toInt_mod, nI_toInt ha, nI_toInt hd, nI_toInt (by omega)]
  exact (Int.ofNat_tmod a d).symm
theorem getB {C : List Int32} (hb : ∀ b ∈ C, isB b) {i : Nat} (hi : i < C.length) : bN (C.getD i 0) < 256 ∧ C[i]? = some (nI (bN (C.getD i 0))) := by
  have e : C.getD i 0 = C[i] := by rw [List.getD_eq_getElem?_getD, List.getElem?_eq_getElem hi]; rfl
  have h := isB_bN (hb C[i] (List.getElem_mem hi))
  rw [e, List.getElem?_eq_getElem hi]
  exact ⟨h.1, congrArg some h.2⟩
/-- the class's source: bytes C at st of the row r with array a -/
def Src (J : yJ) (A : yA) (r a st : Nat) (C : List Int32) : Prop := isR r a ∧ a < 8 ∧ (∀ i, i < C.length → (A a)[st + i]? = some (nI (bN (C.getD i 0)))) ∧ J 10 7 = nI (8 * st + 8 * C.length) ∧ st + C.length ≤ 1600 ∧ ∀ b ∈ C, isB b
def uw (J : yJ) (A : yA) (r st : Nat) (Q : zW) (p : Nat) : zW := YW (pj J 10 6 (nI (8 * st + p))) A r Q
section Cb
variable {J : yJ} {A : yA} {r a st : Nat} {Q : zW} {F p : Nat} {C : List Int32}
theorem Src.eq {J' : yJ} {A' : yA} (h : Src J A r a st C) (hJ : J' 10 7 = J 10 7) (hA : A' a = A a) : Src J' A' r a st C := ⟨h.1, h.2.1, by rw [hA]; exact h.2.2.1, by rw [hJ]; exact h.2.2.2.1, h.2.2.2.2⟩
theorem cb_1 (h : Src J A r a st C) {J1 : yJ} (hp : p < 8 * C.length) : aget (YW J1 A r Q) a (nI (8 * st + p) >>> ((3 : Int32) &&& 31)) = some (nI (bN (C.getD (p / 8) 0))) := by
  obtain ⟨h1, h2, h3, h4, h5, h6⟩ := h
  rw [show (3 : Int32) = nI 3 from rfl, shrD (by decide) (by omega), show (8 * st + p) / 2 ^ 3 = st + p / 8 by omega]
  exact ag_ (R_ne h1).1 (by omega) (h3 (p / 8) (by omega))
theorem cb_2 (hb : ∀ b ∈ C, isB b) (hp : p < 8 * C.length) (hs : 8 * st + p < 2 ^ 31) : (nI (bN (C.getD (p / 8) 0)) >>> ((nI (8 * st + p) &&& (7 : Int32)) &&& 31)) &&& (1 : Int32) = nI (btS C p) := by
  have h := (getB hb (show p / 8 < C.length by omega)).1
  rw [pk_andN (m := (7 : Int32)) (by omega) 3 (by decide), show (8 * st + p) % 2 ^ 3 = p % 8 by omega, shrD (by omega) (by omega), pk_andN (m := (1 : Int32)) (by have := Nat.div_le_self (bN (C.getD (p / 8) 0)) (2 ^ (p % 8)); omega) 1 (by decide)]
  rfl
theorem uw_put (x : Nat) : putI (uw J A r st Q p) 10 5 6 (nI (8 * st + x)) = some (uw J A r st Q x) := by
  unfold uw
  simp only [wp_U]
  rw [pj_pj]
theorem c_tb_l (h : Src J A r a st C) {n : Nat} (hn : n ≤ 16) (hp : p + n ≤ 8 * C.length) : ∀ (m k : Nat), k ≤ n → n - k < m → l_Unpacker_takeBits_27 F m 10 (nI n) (nI (bvS C p k)) (nI k) (uw J A r st Q (p + k)) = some (nI (bvS C p n), uw J A r st Q (p + n)) := by
  have h5 := h.2.2.2.2.1
  intro m
  induction m with
  | zero => intro k _ h; omega
  | succ m ih =>
    intro k hk hm
    show b_Unpacker_takeBits_27 F (l_Unpacker_takeBits_27 F m) 10 (nI n) (nI (bvS C p k)) (nI k) (uw J A r st Q (p + k)) = _
    unfold b_Unpacker_takeBits_27
    by_cases hlt : k < n
    · have g1 : getR (uw J A r st Q (p + k)) 10 5 5 = some r := rfl
      have g2 : getR (uw J A r st Q (p + k)) r 0 0 = some a := R_a h.1
      have g3 : getI (uw J A r st Q (p + k)) 10 5 6 = some (nI (8 * st + (p + k))) := rfl
      have hb := btS_lt C (p + k)
      have hv := bvS_lt C p k
      have hpw : 2 ^ k ≤ 2 ^ 16 := Nat.pow_le_pow_right (by decide) (by omega)
      have hbw : btS C (p + k) * 2 ^ k ≤ 1 * 2 ^ k := Nat.mul_le_mul_right _ (by omega)
      rw [if_neg (nI_ge hlt (by omega)), g1, Option.bind_some, g2, Option.bind_some, g3, Option.bind_some, show aget (uw J A r st Q (p + k)) a (nI (8 * st + (p + k)) >>> ((3 : Int32) &&& 31)) = _ from cb_1 h (by omega), Option.bind_some, Option.bind_some, Option.bind_some, nI_1, nI_1, show 8 * st + (p + k) + 1 = 8 * st + (p + (k + 1)) by omega, uw_put, Option.bind_some, cb_2 h.2.2.2.2.2 (by omega) (by omega), shlD (by omega) (by omega), orD hv (by omega)]
      exact ih (k + 1) (by omega) (by omega)
    · rw [if_pos (nI_le (by omega) (by omega)), show k = n by omega]
/-- takeBits -/
theorem c_takeBits (hF : 20000 ≤ F) (h : Src J A r a st C) {n : Nat} (hn : n ≤ 16) (hp : p ≤ 8 * C.length) : f_Unpacker_takeBits F 10 (nI n) (uw J A r st Q p) = match tkS C p n with
    | some (v, q) => some (nI v, uw J A r st Q q)
    | none => some (-1, uw J A r st Q (8 * C.length)) := by
  have h5 := h.2.2.2.2.1
  unfold f_Unpacker_takeBits b_Unpacker_takeBits_0
  have g3 : getI (uw J A r st Q p) 10 5 6 = some (nI (8 * st + p)) := rfl
  have g4 : getI (uw J A r st Q p) 10 5 7 = some (nI (8 * st + 8 * C.length)) := congrArg some h.2.2.2.1
  rw [g4, Option.bind_some, g3, Option.bind_some, pk_sub (by omega), Option.bind_some, uw_put, Option.bind_some]
  unfold tkS
  by_cases hc : p + n ≤ 8 * C.length
  · rw [if_pos hc, if_pos (nI_le (by omega) (by omega))]
    exact c_tb_l (F := F) (Q := Q) h hn hc F 0 (Nat.zero_le _) (by omega)
  · rw [if_neg hc, if_neg (nI_ge (by omega) (by omega))]
theorem c_sy_l {ls : List Nat} {c : Nat} (h : Src J A r a st C) (hc : isC c) (hD : CDt A c ls) (hS : Sh A) (hn : ls.length ≤ 339) : ∀ (m l v p : Nat), 1 ≤ l → l ≤ 16 → 16 - l < m → kF ls l ≤ 2 * v → v < 2 ^ (l - 1) → p ≤ 8 * C.length → l_Unpacker_takeSymbol_10 F m 10 c (nI v) (nI (kF ls l)) (nI (kB ls l)) (nI l) (uw J A r st Q p) = (match syS ls C (16 - l) l v p with
    | some (k, q) => some (nI k, uw J A r st Q q)
    | none => l_Unpacker_takeSymbol_10 F m 10 c (nI v) (nI (kF ls l)) (nI (kB ls l)) (nI l) (uw J A r st Q p)) ∧ (syS ls C (16 - l) l v p = none → ∃ q, q ≤ 8 * C.length ∧ l_Unpacker_takeSymbol_10 F m 10 c (nI v) (nI (kF ls l)) (nI (kB ls l)) (nI l) (uw J A r st Q p) = some (-1, uw J A r st Q q)) := by
  obtain ⟨a1, a2, a2', a3, a4, a5⟩ := C_a hc
  have h5 := h.2.2.2.2.1
  intro m
  induction m with
  | zero => intro l v p _ _ h; omega
  | succ m ih =>
    intro l v p h1 h16 hm hv hv2 hp
    have ef : l_Unpacker_takeSymbol_10 F (m + 1) 10 c (nI v) (nI (kF ls l)) (nI (kB ls l)) (nI l) (uw J A r st Q p) = b_Unpacker_takeSymbol_10 F (l_Unpacker_takeSymbol_10 F m) 10 c (nI v) (nI (kF ls l)) (nI (kB ls l)) (nI l) (uw J A r st Q p) := rfl
    rw [ef]
    unfold b_Unpacker_takeSymbol_10
    by_cases hlt : l ≤ 15
    · have g1 : getR (uw J A r st Q p) 10 5 5 = some r := rfl
      have g2 : getR (uw J A r st Q p) r 0 0 = some a := R_a h.1
      have g3 : getI (uw J A r st Q p) 10 5 6 = some (nI (8 * st + p)) := rfl
      have g4 : getI (uw J A r st Q p) 10 5 7 = some (nI (8 * st + 8 * C.length)) := congrArg some h.2.2.2.1
      rw [show 16 - l = (15 - l) + 1 by omega]
      unfold syS
      rw [if_neg (show ¬ (15 : Int32) < nI l from nI_nlt (b := l) (a := 15) hlt (by decide)), g3, Option.bind_some, g4, Option.bind_some]
      by_cases hpl : p < 8 * C.length
      · have hb := btS_lt C p
        have hpw : 2 ^ (l - 1) ≤ 2 ^ 14 := Nat.pow_le_pow_right (by decide) (by omega)
        have hnx := nx_le ls hlt hn
        have hbl := bf_le ls l
        have g5 : getR (uw J A r st Q (p + 1)) c 4 0 = some (c + 1) := (C_g hc).1
        have g6 : aget (uw J A r st Q (p + 1)) (c + 1) (nI l) = some (nI (kC ls l)) := ag_ (by rw [a1]; decide) (by omega) (hD.1 l h1 hlt)
        have g7 : getR (uw J A r st Q (p + 1)) c 4 1 = some (c + 2) := (C_g hc).2.1
        rw [if_pos hpl, if_pos (nI_lt (by omega) (by omega)), g1, Option.bind_some, g2, Option.bind_some, Option.bind_some, show aget (uw J A r st Q p) a (nI (8 * st + p) >>> ((3 : Int32) &&& 31)) = _ from cb_1 h hpl, Option.bind_some, Option.bind_some, Option.bind_some, nI_1, show 8 * st + p + 1 = 8 * st + (p + 1) by omega, uw_put, Option.bind_some, g5, Option.bind_some, g6, Option.bind_some, cb_2 h.2.2.2.2.2 hpl (by omega), show (2 : Int32) = nI 2 from rfl, pk_mul, nI_add, pk_sub (by omega)]
        by_cases hit : 2 * v + btS C p - kF ls l < kC ls l
        · obtain ⟨k, k1, k2, k3, k4⟩ := fn_hit (ls := ls) (l := l) (v := 2 * v + btS C p) (by omega) (by omega) hit
          have hD2 := hD.2 k k1 (by rw [k2]; omega)
          rw [k2, k3] at hD2
          have g8 : aget (uw J A r st Q (p + 1)) (c + 2) (nI (kB ls l + (2 * v + btS C p)) - nI (kF ls l)) = some (nI k) := by
            rw [pk_sub (by omega), show kB ls l + (2 * v + btS C p) - kF ls l = kB ls l + (2 * v + btS C p - kF ls l) by omega]
            exact ag_ a2 (by omega) hD2
          rw [if_neg (nI_ge hit (by omega)), g7, Option.bind_some, nI_add, g8, Option.bind_some]
          simp only [k4]
          exact ⟨trivial, fun q => by cases q⟩
        · have hmiss := fn_miss (ls := ls) (l := l) (v := 2 * v + btS C p) (by omega) (by omega)
          have e1 : (nI 2 : Int32) * (nI (kF ls l) + nI (kC ls l)) = nI (kF ls (l + 1)) := by
            rw [nI_add, pk_mul]
            rfl
          have e2 : nI (kB ls l) + nI (kC ls l) = nI (kB ls (l + 1)) := nI_add _ _
          rw [if_pos (nI_le (by omega) (by omega)), e1, e2, nI_1]
          simp only [hmiss]
          have := ih (l + 1) (2 * v + btS C p) (p + 1) (by omega) (by omega) (by omega) (by show 2 * (kF ls l + kC ls l) ≤ _; omega) (by
            have : 2 ^ (l + 1 - 1) = 2 * 2 ^ (l - 1) := by
              rw [show l + 1 - 1 = (l - 1) + 1 by omega, Nat.pow_succ, Nat.mul_comm]
            omega) (by omega)
          rw [show 16 - (l + 1) = 15 - l by omega] at this
          exact this
      · rw [if_neg hpl, if_neg (nI_nlt (by omega) (by omega))]
        exact ⟨rfl, fun _ => ⟨p, hp, rfl⟩⟩
    · have e16 : l = 16 := by omega
      subst e16
      rw [if_pos (by decide)]
      exact ⟨rfl, fun _ => ⟨p, hp, rfl⟩⟩
theorem c_symbol {ls : List Nat} {c : Nat} (hF : 20000 ≤ F) (h : Src J A r a st C) (hc : isC c) (hD : CDt A c ls) (hS : Sh A) (hn : ls.length ≤ 339) (hp : p ≤ 8 * C.length) : (∀ k q, symS ls C p = some (k, q) → f_Unpacker_takeSymbol F 10 c (uw J A r st Q p) = some (nI k, uw J A r st Q q)) ∧ (symS ls C p = none → ∃ q, q ≤ 8 * C.length ∧ f_Unpacker_takeSymbol F 10 c (uw J A r st Q p) = some (-1, uw J A r st Q q)) := by
  have e0 : kF ls 1 = 0 := by show 2 * (0 + kC ls 0) = 0; unfold kC; rw [if_pos rfl]
  have e1 : kB ls 1 = 0 := by show 0 + kC ls 0 = 0; unfold kC; rw [if_pos rfl]
  have := c_sy_l (F := F) (Q := Q) h hc hD hS hn F 1 0 p (Nat.le_refl _) (by decide) (by omega) (by rw [e0]; exact Nat.zero_le _) (by decide) hp
  rw [e0, e1] at this
  refine ⟨?_, this.2⟩
  intro k q hk
  have t1 := this.1
  rw [show syS ls C (16 - 1) 1 0 p = some (k, q) from hk] at t1
  exact t1
end Cb
/-! the reference -/
def mu (J : yJ) (A : yA) (s : Nat) (Q : zW) (p : Nat) : zW := YW (pj (pj J 39 10 (nI p)) 39 11 0) A s Q
def mfr (J : yJ) (A : yA) (J' : yJ) (A' : yA) : Prop := Sh A' ∧ (∀ o, o ≠ 39 → J' o = J o) ∧ (∀ k, k ≠ 6 → k ≠ 10 → k ≠ 11 → J' 39 k = J 39 k) ∧ ∀ j, j < 42 ∨ j = 43 ∨ 46 < j → A' j = A j
def mB (J : yJ) (A : yA) (s : Nat) (Q : zW) (w : zW) : Prop := ∃ J' A', w = YW J' A' s Q ∧ mfr J A J' A' ∧ J' 39 11 = 1
def Srm (J : yJ) (A : yA) (C : List Int32) : Prop := (∀ i, i < C.length → (A 43)[i]? = some (nI (bN (C.getD i 0)))) ∧ J 39 8 = nI C.length ∧ C.length ≤ 1600 ∧ ∀ b ∈ C, isB b
section Mb
variable {J : yJ} {A : yA} {s : Nat} {Q : zW} {F p : Nat} {C : List Int32}
theorem mfr.rf (hS : Sh A) : mfr J A J A := ⟨hS, fun _ _ => rfl, fun _ _ _ _ => rfl, fun _ _ => rfl⟩
theorem mfr.tr {J1 J2 : yJ} {A1 A2 : yA} (h1 : mfr J A J1 A1) (h2 : mfr J1 A1 J2 A2) : mfr J A J2 A2 := ⟨h2.1, fun o ho => (h2.2.1 o ho).trans (h1.2.1 o ho), fun k a b c => (h2.2.2.1 k a b c).trans (h1.2.2.1 k a b c), fun j hj => (h2.2.2.2 j hj).trans (h1.2.2.2 j hj)⟩
theorem mfr.pj {J1 : yJ} {A1 : yA} (h : mfr J A J1 A1) {k : Nat} {x : Int32} (hk : k = 6 ∨ k = 10 ∨ k = 11) : mfr J A (pj J1 39 k x) A1 := ⟨h.1, fun o ho => by rw [pj_row ho]; exact h.2.1 o ho, fun j a b c => by rw [pj_k (by omega)]; exact h.2.2.1 j a b c, h.2.2.2⟩
theorem mfr.ud {J1 : yJ} {A1 : yA} (h : mfr J A J1 A1) {k : Nat} {xs : List Int32} (hk : k = 42 ∨ k = 44 ∨ k = 45 ∨ k = 46) (hl : xs.length = (A1 k).length) : mfr J A J1 (ud A1 k xs) := ⟨h.1.ud hl, h.2.1, h.2.2.1, fun j hj => by rw [ud_n (by omega)]; exact h.2.2.2 j hj⟩
theorem mu_fr (hS : Sh A) : mfr J A (pj (pj J 39 10 (nI p)) 39 11 0) A := ((mfr.rf hS).pj (Or.inr (Or.inl rfl))).pj (Or.inr (Or.inr rfl))
theorem mB.tr {J1 : yJ} {A1 : yA} {w : zW} (h1 : mfr J A J1 A1) (h2 : mB J1 A1 s Q w) : mB J A s Q w := by
  obtain ⟨J', A', e, f, b⟩ := h2
  exact ⟨J', A', e, h1.tr f, b⟩
theorem Srm.eq {J' : yJ} {A' : yA} (h : Srm J A C) (hJ : J' 39 8 = J 39 8) (hA : A' 43 = A 43) : Srm J' A' C := ⟨by rw [hA]; exact h.1, by rw [hJ]; exact h.2.1, h.2.2⟩
theorem Srm.fr {J' : yJ} {A' : yA} (h : Srm J A C) (f : mfr J A J' A') : Srm J' A' C := h.eq (f.2.2.1 8 (by decide) (by decide) (by decide)) (f.2.2.2 43 (Or.inr (Or.inl rfl)))
theorem m_bit_ok (h : Srm J A C) (hp : p < 8 * C.length) : f_Model_bit F 39 (mu J A s Q p) = some (nI (btS C p), mu J A s Q (p + 1)) := by
  obtain ⟨h1, h2, h3, h4⟩ := h
  have hb := (getB h4 (show p / 8 < C.length by omega)).1
  unfold f_Model_bit b_Model_bit_0 mu
  simp only [wg_M, wp_M, Option.bind_some]
  rw [pj_s, if_pos rfl, pj_k (by decide), pj_s, pj_k (by decide), pj_k (by decide), h2, show (8 : Int32) = nI 8 from rfl, pk_mul, if_pos (nI_lt hp (by omega)), pk_div (by omega) (by decide) (by decide), show aget (YW (pj (pj J 39 10 (nI p)) 39 11 0) A s Q) 43 (nI (p / 8)) = some (nI (bN (C.getD (p / 8) 0))) from ag_ (by decide) (by omega) (h1 (p / 8) (by omega)), Option.bind_some, nI_mod (by omega) (by decide) (by decide), shrD (by omega) (by omega), pk_andN (m := (1 : Int32)) (by have := Nat.div_le_self (bN (C.getD (p / 8) 0)) (2 ^ (p % 8)); omega) 1 (by decide), nI_1, pj_comm (o := 39) (k := 11) (p := 39) (q := 10) (Or.inr (by decide)), pj_pj]
  rfl
theorem m_bit_bad (h : J 39 11 = 1) : f_Model_bit F 39 (YW J A s Q) = some (0, YW J A s Q) := by
  unfold f_Model_bit b_Model_bit_0 b_Model_bit_21
  simp only [wg_M, wp_M, Option.bind_some]
  rw [h, if_neg (by decide), pj_id h]
theorem m_bit_no (h : Srm J A C) (hp : ¬ p < 8 * C.length) (hp2 : p ≤ 2 ^ 20) : f_Model_bit F 39 (mu J A s Q p) = some (0, YW (pj (pj (pj J 39 10 (nI p)) 39 11 0) 39 11 1) A s Q) := by
  obtain ⟨h1, h2, h3, h4⟩ := h
  unfold f_Model_bit b_Model_bit_0 b_Model_bit_21 mu
  simp only [wg_M, wp_M, Option.bind_some]
  rw [pj_s, if_pos rfl, pj_k (by decide), pj_s, pj_k (by decide), pj_k (by decide), h2, show (8 : Int32) = nI 8 from rfl, pk_mul, if_neg (nI_nlt (by omega) (by omega))]
theorem mB_pj (hS : Sh A) {k : Nat} : mB J A s Q (YW (pj (pj (pj J 39 10 (nI p)) 39 11 0) 39 11 1) A s Q) := ⟨_, _, rfl, (mu_fr hS).pj (Or.inr (Or.inr rfl)), pj_s⟩
theorem m_bits_bl (h : J 39 11 = 1) {n : Nat} (hn : n ≤ 20) : ∀ (m k : Nat) (v : Int32), k ≤ n → n - k < m → ∃ v', l_Model_bits_4 F m 39 (nI n) v (nI k) (YW J A s Q) = some (v', YW J A s Q) := by
  intro m
  induction m with
  | zero => intro k v _ h; omega
  | succ m ih =>
    intro k v hk hm
    show ∃ v', b_Model_bits_4 F (l_Model_bits_4 F m) 39 (nI n) v (nI k) (YW J A s Q) = _
    unfold b_Model_bits_4
    by_cases hlt : k < n
    · rw [if_neg (nI_ge hlt (by omega))]
      simp only [wo_M, Option.bind_some, m_bit_bad h, nI_1]
      exact ih (k + 1) _ (by omega) (by omega)
    · rw [if_pos (nI_le (by omega) (by omega))]
      exact ⟨v, rfl⟩
theorem m_bits_bad (hF : 20000 ≤ F) (h : J 39 11 = 1) {n : Nat} (hn : n ≤ 20) : ∃ v', f_Model_bits F 39 (nI n) (YW J A s Q) = some (v', YW J A s Q) := m_bits_bl h hn F 0 0 (Nat.zero_le _) (by omega)
theorem mu_o {α : Type} (X : Option α) : ((zobj (mu J A s Q p) 39 9).bind fun _ => X) = X := rfl
theorem m_bits_l (h : Srm J A C) (hS : Sh A) {n : Nat} (hn : n ≤ 16) : ∀ (m k : Nat), k ≤ n → n - k < m → p + k ≤ 8 * C.length → (p + n ≤ 8 * C.length → l_Model_bits_4 F m 39 (nI n) (nI (bvS C p k)) (nI k) (mu J A s Q (p + k)) = some (nI (bvS C p n), mu J A s Q (p + n))) ∧ (¬ p + n ≤ 8 * C.length → ∃ v' w', l_Model_bits_4 F m 39 (nI n) (nI (bvS C p k)) (nI k) (mu J A s Q (p + k)) = some (v', w') ∧ mB J A s Q w') := by
  have h3 := h.2.2.1
  intro m
  induction m with
  | zero => intro k _ h; omega
  | succ m ih =>
    intro k hk hm hpk
    have ef : l_Model_bits_4 F (m + 1) 39 (nI n) (nI (bvS C p k)) (nI k) (mu J A s Q (p + k)) = b_Model_bits_4 F (l_Model_bits_4 F m) 39 (nI n) (nI (bvS C p k)) (nI k) (mu J A s Q (p + k)) := rfl
    rw [ef]
    unfold b_Model_bits_4
    by_cases hlt : k < n
    · rw [if_neg (nI_ge hlt (by omega)), mu_o]
      by_cases hp : p + k < 8 * C.length
      · have hb := btS_lt C (p + k)
        have hv := bvS_lt C p k
        have hpw : 2 ^ k ≤ 2 ^ 16 := Nat.pow_le_pow_right (by decide) (by omega)
        have hbw : btS C (p + k) * 2 ^ k ≤ 1 * 2 ^ k := Nat.mul_le_mul_right _ (by omega)
        rw [m_bit_ok h hp, Option.bind_some]
        simp only []
        rw [shlD (by omega) (by omega), orD hv (by omega), nI_1]
        exact ih (k + 1) (by omega) (by omega) (by omega)
      · refine ⟨fun q => by omega, fun _ => ?_⟩
        rw [m_bit_no h hp (by omega), Option.bind_some]
        simp only [nI_1]
        obtain ⟨v', e⟩ := m_bits_bl (F := F) (J := pj (pj (pj J 39 10 (nI (p + k))) 39 11 0) 39 11 1) (A := A) (s := s) (Q := Q) pj_s (n := n) (by omega) m (k + 1) (nI (bvS C p k) ||| ((0 : Int32) <<< (nI k &&& 31))) (by omega) (by omega)
        exact ⟨v', _, e, mB_pj (k := 0) hS⟩
    · have ek : k = n := by omega
      subst ek
      rw [if_pos (nI_le (by omega) (by omega))]
      exact ⟨fun _ => rfl, fun q => by omega⟩
theorem m_bits (hF : 20000 ≤ F) (h : Srm J A C) (hS : Sh A) {n : Nat} (hn : n ≤ 16) (hp : p ≤ 8 * C.length) : (∀ v q, tkS C p n = some (v, q) → f_Model_bits F 39 (nI n) (mu J A s Q p) = some (nI v, mu J A s Q q)) ∧ (tkS C p n = none → ∃ v' w', f_Model_bits F 39 (nI n) (mu J A s Q p) = some (v', w') ∧ mB J A s Q w') := by
  have := m_bits_l (F := F) (p := p) (s := s) (Q := Q) h hS hn F 0 (Nat.zero_le _) (by omega) hp
  refine ⟨?_, ?_⟩
  · intro v q e
    unfold tkS at e
    split at e
    · rename_i hc
      cases e
      exact this.1 hc
    · cases e
  · intro e
    unfold tkS at e
    split at e
    · cases e
    · rename_i hc
      exact this.2 hc
theorem m_sy_i {ls : List Nat} {fr l v : Nat} (hS : Sh A) (hl : hL44 A fr ls) (h15 : ∀ l ∈ ls, l ≤ 15) (hw : ∀ j, j < ls.length → 0 < ls.getD j 0 → (A 45)[fr + j]? = some (nI (kW ls j))) (hfr : fr + ls.length ≤ 339) (h1 : 1 ≤ l) (hl15 : l ≤ 15) (hv : v < 2 ^ 20) {K5 : Nat → Int32 → Int32 → Int32 → Int32 → zW → Option (Int32 × zW)} : ∀ (m k : Nat), k ≤ ls.length → ls.length - k < m → l_Model_symbol_31 F K5 m 39 (nI fr) (nI ls.length) (nI v) (nI l) (nI (fr + k)) (mu J A s Q p) = match kN ls l v (ls.length - k) k with
    | some j => some (nI j, mu J A s Q p)
    | none => K5 39 (nI fr) (nI ls.length) (nI v) (nI (l + 1)) (mu J A s Q p) := by
  intro m
  induction m with
  | zero => intro k _ h; omega
  | succ m ih =>
    intro k hk hm
    show b_Model_symbol_31 F K5 (l_Model_symbol_31 F K5 m) 39 (nI fr) (nI ls.length) (nI v) (nI l) (nI (fr + k)) (mu J A s Q p) = _
    unfold b_Model_symbol_31 b_Model_symbol_80 b_Model_symbol_74
    rw [nI_add]
    by_cases hlt : k < ls.length
    · have g1 : getI (mu J A s Q p) 39 9 11 = some 0 := rfl
      have g2 : getR (mu J A s Q p) 39 9 12 = some 44 := rfl
      have g3 : getR (mu J A s Q p) 39 9 13 = some 45 := rfl
      have hg : aget (mu J A s Q p) 44 (nI (fr + k)) = some (nI (ls.getD k 0)) := ag_ (by decide) (by omega) (hl k hlt)
      have hle : ls.getD k 0 ≤ 15 := by rw [gDk hlt]; exact h15 _ (List.getElem_mem _)
      rw [if_neg (nI_ge (by omega) (by omega)), g1, Option.bind_some, if_pos rfl, g2, Option.bind_some, hg, Option.bind_some]
      rw [show ls.length - k = (ls.length - (k + 1)) + 1 by omega]
      unfold kN
      have go := ih (k + 1) (by omega) (by omega)
      by_cases e : ls.getD k 0 = l
      · have hk0 : 0 < ls.getD k 0 := by omega
        have hkw : kW ls k < 2 ^ 30 := by
          have h1 := rk_lt hlt hk0
          have h2 := nx_le ls hle (show ls.length ≤ 339 by omega)
          unfold kW
          omega
        have hg2 : aget (mu J A s Q p) 45 (nI (fr + k)) = some (nI (kW ls k)) := ag_ (by decide) (by omega) (hw k hlt hk0)
        rw [if_pos (by rw [e]), g3, Option.bind_some, hg2, Option.bind_some]
        by_cases e2 : kW ls k = v
        · rw [if_pos (by rw [e2]), if_pos ⟨e, e2⟩, pk_sub (by omega), Nat.add_sub_cancel_left]
        · rw [if_neg (fun q => e2 ((nI_eq (by omega) (by omega)).mp q)), if_neg (fun q => e2 q.2), nI_1]
          exact go
      · rw [if_neg (fun q => e ((nI_eq (by omega) (by omega)).mp q)), if_neg (fun q => e q.1), nI_1]
        exact go
    · rw [if_pos (nI_le (by omega) (by omega)), show ls.length - k = 0 by omega, nI_1]
      rfl
theorem m_sy_l {ls : List Nat} {fr : Nat} (hF : 20000 ≤ F) (h : Srm J A C) (hS : Sh A) (hl : hL44 A fr ls) (h15 : ∀ l ∈ ls, l ≤ 15) (hw : ∀ j, j < ls.length → 0 < ls.getD j 0 → (A 45)[fr + j]? = some (nI (kW ls j))) (hfr : fr + ls.length ≤ 339) : ∀ (m l v p : Nat), 1 ≤ l → l ≤ 16 → 16 - l < m → v < 2 ^ (l - 1) → p ≤ 8 * C.length → (∀ k q, syS ls C (16 - l) l v p = some (k, q) → l_Model_symbol_5 F m 39 (nI fr) (nI ls.length) (nI v) (nI l) (mu J A s Q p) = some (nI k, mu J A s Q q)) ∧ (syS ls C (16 - l) l v p = none → ∃ w', l_Model_symbol_5 F m 39 (nI fr) (nI ls.length) (nI v) (nI l) (mu J A s Q p) = some (0, w') ∧ mB J A s Q w') := by
  have h3 := h.2.2.1
  intro m
  induction m with
  | zero => intro l v p _ _ h; omega
  | succ m ih =>
    intro l v p h1 h16 hm hv hp
    have ef : l_Model_symbol_5 F (m + 1) 39 (nI fr) (nI ls.length) (nI v) (nI l) (mu J A s Q p) = b_Model_symbol_5 F (l_Model_symbol_5 F m) 39 (nI fr) (nI ls.length) (nI v) (nI l) (mu J A s Q p) := rfl
    rw [ef]
    unfold b_Model_symbol_5 b_Model_symbol_86
    have g1 : getI (mu J A s Q p) 39 9 11 = some 0 := rfl
    by_cases hlt : l ≤ 15
    · have hpw : 2 ^ (l - 1) ≤ 2 ^ 14 := Nat.pow_le_pow_right (by decide) (by omega)
      rw [if_neg (show ¬ (16 : Int32) ≤ nI l from nI_ge (b := 16) (by omega) (by decide)), g1, Option.bind_some, if_pos rfl, mu_o]
      rw [show 16 - l = (15 - l) + 1 by omega]
      unfold syS
      by_cases hpl : p < 8 * C.length
      · have hb := btS_lt C p
        rw [m_bit_ok h hpl, Option.bind_some]
        simp only []
        have hi := m_sy_i (F := F) (J := J) (s := s) (Q := Q) (p := p + 1) (l := l) (v := 2 * v + btS C p) (K5 := l_Model_symbol_5 F m) hS hl h15 hw hfr h1 hlt (by omega) F 0 (Nat.zero_le _) (by omega)
        rw [Nat.add_zero, Nat.sub_zero] at hi
        rw [show (2 : Int32) = nI 2 from rfl, pk_mul, nI_add, hi, if_pos hpl]
        cases hk : kN ls l (2 * v + btS C p) ls.length 0 with
        | some j =>
          simp only []
          exact ⟨fun k q e => by cases e; rfl, fun e => by cases e⟩
        | none =>
          simp only []
          have := ih (l + 1) (2 * v + btS C p) (p + 1) (by omega) (by omega) (by omega) (by
            have : 2 ^ (l + 1 - 1) = 2 * 2 ^ (l - 1) := by
              rw [show l + 1 - 1 = (l - 1) + 1 by omega, Nat.pow_succ, Nat.mul_comm]
            omega) (by omega)
          rw [show 16 - (l + 1) = 15 - l by omega] at this
          exact this
      · rw [if_neg hpl]
        refine ⟨fun k q e => (by cases e), fun _ => ?_⟩
        rw [m_bit_no h hpl (by omega), Option.bind_some]
        simp only []
        have hbad : ∀ (mm : Nat) (x y z : Int32), 0 < mm → l_Model_symbol_5 F mm 39 (nI fr) (nI ls.length) x y (YW (pj (pj (pj J 39 10 (nI p)) 39 11 0) 39 11 1) A s Q) = some (0, YW (pj (pj (pj J 39 10 (nI p)) 39 11 0) 39 11 1) A s Q) := by
          intro mm x y z hmm
          obtain ⟨mm, rfl⟩ : ∃ q, mm = q + 1 := ⟨mm - 1, by omega⟩
          show b_Model_symbol_5 F (l_Model_symbol_5 F mm) 39 (nI fr) (nI ls.length) x y _ = _
          unfold b_Model_symbol_5 b_Model_symbol_86
          simp only [wg_M, wp_M, Option.bind_some]
          rw [pj_s, if_neg (show ¬ (1 : Int32) = 0 by decide), pj_pj]
          exact ite_self _
        have hin : ∀ (x y : Int32), l_Model_symbol_31 F (l_Model_symbol_5 F m) F 39 (nI fr) (nI ls.length) x y (nI fr) (YW (pj (pj (pj J 39 10 (nI p)) 39 11 0) 39 11 1) A s Q) = l_Model_symbol_5 F m 39 (nI fr) (nI ls.length) x (y + 1) (YW (pj (pj (pj J 39 10 (nI p)) 39 11 0) 39 11 1) A s Q) := by
          intro x y
          obtain ⟨G, rfl⟩ : ∃ q, F = q + 1 := ⟨F - 1, by omega⟩
          show b_Model_symbol_31 _ _ (l_Model_symbol_31 _ _ G) 39 (nI fr) (nI ls.length) x y (nI fr) _ = _
          unfold b_Model_symbol_31 b_Model_symbol_80
          simp only [wg_M, Option.bind_some]
          rw [pj_s, if_neg (show ¬ (1 : Int32) = 0 by decide)]
          exact ite_self _
        rw [hin, hbad m _ _ 0 (by omega)]
        exact ⟨_, rfl, mB_pj (k := 0) hS⟩
    · have e16 : l = 16 := by omega
      subst e16
      refine ⟨fun k q e => (by cases e), fun _ => ?_⟩
      rw [if_pos (by decide)]
      unfold mu
      simp only [wp_M, Option.bind_some]
      exact ⟨_, rfl, mB_pj (k := 0) hS⟩
theorem m_symbol {ls : List Nat} {fr : Nat} (hF : 20000 ≤ F) (h : Srm J A C) (hS : Sh A) (hl : hL44 A fr ls) (h15 : ∀ l ∈ ls, l ≤ 15) (hw : ∀ j, j < ls.length → 0 < ls.getD j 0 → (A 45)[fr + j]? = some (nI (kW ls j))) (hfr : fr + ls.length ≤ 339) (hp : p ≤ 8 * C.length) : (∀ k q, symS ls C p = some (k, q) → f_Model_symbol F 39 (nI fr) (nI ls.length) (mu J A s Q p) = some (nI k, mu J A s Q q)) ∧ (symS ls C p = none → ∃ w', f_Model_symbol F 39 (nI fr) (nI ls.length) (mu J A s Q p) = some (0, w') ∧ mB J A s Q w') := m_sy_l hF h hS hl h15 hw hfr F 1 0 p (Nat.le_refl _) (by decide) (by omega) (by decide) hp
theorem m_sym_bad (hF : 20000 ≤ F) (h : J 39 11 = 1) {x y : Int32} : f_Model_symbol F 39 x y (YW J A s Q) = some (0, YW J A s Q) := by
  obtain ⟨G, rfl⟩ : ∃ q, F = q + 1 := ⟨F - 1, by omega⟩
  unfold f_Model_symbol b_Model_symbol_0
  show b_Model_symbol_5 (G + 1) (l_Model_symbol_5 (G + 1) G) 39 x y 0 1 _ = _
  unfold b_Model_symbol_5 b_Model_symbol_86
  simp only [wg_M, wp_M, Option.bind_some]
  rw [h, if_neg (show ¬ (1 : Int32) = 0 by decide), pj_id h]
  exact ite_self _
end Mb
