/-! Blocks, by the class. -/
def xL (s : Nat) : Nat := if s < 265 ∨ s = 285 then 0 else (s - 265) / 4 + 1
def lL (s : Nat) : Nat := if s < 265 then s - 254 else if s = 285 then 258 else (4 + (s - 265) % 4) * 2 ^ xL s + 3
def xD (t : Nat) : Nat := if t < 4 then 0 else (t - 2) / 2
def lD (t : Nat) : Nat := if t < 4 then t + 1 else (2 + t % 2) * 2 ^ xD t + 1
def rpt (O : List Int32) (d : Nat) : Nat → List Int32
  | 0 => O
  | n + 1 => rpt O d n ++ [(rpt O d n).getD (O.length + n - d) 0]
theorem rpt_len (O : List Int32) (d : Nat) : ∀ n, (rpt O d n).length = O.length + n
  | 0 => rfl
  | n + 1 => by
    show (rpt O d n ++ [_]).length = _
    rw [List.length_append, rpt_len O d n, List.length_singleton, Nat.add_assoc]
theorem isB_0 : isB (0 : Int32) := ⟨0, by decide, rfl⟩
theorem isB_gD {O : List Int32} (h : ∀ b ∈ O, isB b) (i : Nat) : isB (O.getD i 0) := by
  rw [List.getD_eq_getElem?_getD]
  cases e : O[i]? with
  | none => exact isB_0
  | some x => exact h x (List.mem_of_getElem? e)
theorem isB_1 {b : Int32} (h : isB b) : ∀ c ∈ [b], isB c := fun c hc => by rw [List.mem_singleton.mp hc]; exact h
theorem isB_rpt {O : List Int32} (h : ∀ b ∈ O, isB b) (d : Nat) : ∀ n, ∀ b ∈ rpt O d n, isB b
  | 0 => h
  | n + 1 => isB_app (isB_rpt h d n) (isB_1 (isB_gD (isB_rpt h d n) _))
/-- one repeat: its place, its end, what is then given out -/
def repS (l2 : List Nat) (C : List Int32) (s p : Nat) (O : List Int32) : Option (Nat × List Int32) :=
  if s ≤ 285 then (match tkS C p (xL s) with
    | none => none
    | some (v, p1) => (match symS l2 C p1 with
      | none => none
      | some (t, p2) => if t ≤ 29 then (match tkS C p2 (xD t) with
        | none => none
        | some (u, p3) => if lD t + u ≤ O.length ∧ O.length + (lL s + v) ≤ 200 then some (p3, rpt O (lD t + u) (lL s + v)) else none) else none)) else none
def codS (l1 l2 : List Nat) (C : List Int32) : Nat → Nat → List Int32 → Option (Nat × List Int32)
  | 0, _, _ => none
  | m + 1, p, O => match symS l1 C p with
    | none => none
    | some (s, p1) => if s = 256 then some (p1, O) else if s < 256 then (if O.length < 200 then codS l1 l2 C m p1 (O ++ [nI s]) else none) else (match repS l2 C s p1 O with
      | none => none
      | some (p2, O2) => codS l1 l2 C m p2 O2)
def stS (C : List Int32) (p : Nat) (O : List Int32) : Option (Nat × List Int32) := match tkS C ((p + 7) / 8 * 8) 16 with
  | none => none
  | some (n, p1) => (match tkS C p1 16 with
    | none => none
    | some (m, p2) => if n + m = 65535 ∧ p2 + 8 * n ≤ 8 * C.length ∧ O.length + n ≤ 200 then some (p2 + 8 * n, O ++ (C.drop (p2 / 8)).take n) else none)
theorem repS_lt {l2 : List Nat} {C : List Int32} {s p q : Nat} {O O2 : List Int32} (h : repS l2 C s p O = some (q, O2)) : p < q ∧ q ≤ 8 * C.length ∧ O2.length ≤ 200 ∧ ((∀ b ∈ O, isB b) → ∀ b ∈ O2, isB b) := by
  unfold repS at h
  split at h
  · split at h
    · cases h
    · rename_i v p1 h1
      split at h
      · cases h
      · rename_i t p2 h2
        split at h
        · split at h
          · cases h
          · rename_i u p3 h3
            split at h
            · rename_i hc
              cases h
              have e1 := tkS_lt h1
              have e2 := symS_lt h2
              have e3 := tkS_lt h3
              exact ⟨by omega, e3.2.2, by rw [rpt_len]; omega, fun hb => isB_rpt hb _ _⟩
            · cases h
        · cases h
  · cases h
theorem codS_ok {l1 l2 : List Nat} {C : List Int32} (hl : l1.length ≤ 288) : ∀ {m p q : Nat} {O O2 : List Int32}, codS l1 l2 C m p O = some (q, O2) → O.length ≤ 200 → (∀ b ∈ O, isB b) → p < q ∧ q ≤ 8 * C.length ∧ O2.length ≤ 200 ∧ ∀ b ∈ O2, isB b
  | 0, _, _, _, _, h, _, _ => by cases h
  | m + 1, p, q, O, O2, h, hO, hb => by
    unfold codS at h
    split at h
    · cases h
    · rename_i s p1 h1
      have e1 := symS_lt h1
      split at h
      · cases h; exact ⟨e1.2.1, e1.2.2, hO, hb⟩
      · split at h
        · rename_i hs
          split at h
          · have := codS_ok hl h (by rw [List.length_append, List.length_singleton]; omega) (isB_app hb (isB_1 ⟨s, hs, rfl⟩))
            exact ⟨by omega, this.2⟩
          · cases h
        · split at h
          · cases h
          · rename_i p2 O3 h2
            have e2 := repS_lt h2
            have := codS_ok hl h e2.2.2.1 (e2.2.2.2 hb)
            exact ⟨by omega, this.2⟩
theorem stS_ok {C : List Int32} (hC : ∀ b ∈ C, isB b) {p q : Nat} {O O2 : List Int32} (h : stS C p O = some (q, O2)) (hb : ∀ b ∈ O, isB b) : p < q ∧ q ≤ 8 * C.length ∧ O2.length ≤ 200 ∧ ∀ b ∈ O2, isB b := by
  unfold stS at h
  split at h
  · cases h
  · rename_i n p1 h1
    split at h
    · cases h
    · rename_i m p2 h2
      split at h
      · rename_i hc
        cases h
        have e1 := tkS_lt h1
        have e2 := tkS_lt h2
        exact ⟨by omega, hc.2.1, by rw [List.length_append, List.length_take]; omega, isB_app hb (mem_dt hC)⟩
      · cases h
theorem xL_le {s : Nat} (h : s ≤ 285) : xL s ≤ 5 := by
  unfold xL
  split <;> omega
theorem xD_le {t : Nat} (h : t ≤ 29) : xD t ≤ 13 := by
  unfold xD
  split <;> omega
theorem lL_le {s : Nat} (h : s ≤ 285) : lL s ≤ 300 := by
  have h5 : 2 ^ xL s ≤ 2 ^ 5 := Nat.pow_le_pow_right (by decide) (xL_le h)
  unfold lL
  split
  · omega
  · split
    · omega
    · have : (4 + (s - 265) % 4) * 2 ^ xL s ≤ 7 * 2 ^ 5 := Nat.mul_le_mul (by omega) h5
      omega
theorem lD_le {t : Nat} (h : t ≤ 29) : lD t ≤ 40000 := by
  have h5 : 2 ^ xD t ≤ 2 ^ 13 := Nat.pow_le_pow_right (by decide) (xD_le h)
  unfold lD
  split
  · omega
  · have : (2 + t % 2) * 2 ^ xD t ≤ 3 * 2 ^ 13 := Nat.mul_le_mul (by omega) h5
    omega
theorem lD_pos (t : Nat) : 0 < lD t := by unfold lD; split <;> omega
theorem lL_pos {s : Nat} (h : 257 ≤ s) : 0 < lL s := by unfold lL; split; omega; split <;> omega
def cfr (J : yJ) (A : yA) (J' : yJ) (A' : yA) : Prop := Sh A' ∧ (∀ o, o ≠ 7 → o ≠ 10 → J' o = J o) ∧ ∀ j, j < 8 ∨ 23 < j → A' j = A j
def cFl (J : yJ) (A : yA) (r : Nat) (Q : zW) (f : Option (Int32 × zW)) : Prop := ∃ J' A', f = some (0, YW J' A' r Q) ∧ cfr J A J' A'
/-- the class unpacks: place p, given out O -/
def gwo (J : yJ) (A : yA) (r st : Nat) (Q : zW) (p : Nat) (O : List Int32) : zW := uw (pj (pj J 7 1 (nI O.length)) 7 2 0) (ud A 8 (wr (A 8) 0 O)) r st Q p
section Cg
variable {J : yJ} {A : yA} {r a st : Nat} {Q : zW} {F p : Nat} {C O : List Int32}
theorem r78 : isR 7 8 := Or.inr (Or.inr (Or.inr (Or.inl ⟨rfl, rfl⟩)))
theorem gw_S (hS : Sh A) (hO : O.length ≤ 200) : Sh (ud A 8 (wr (A 8) 0 O)) := by
  have h8 : (A 8).length = 200 := hS 8
  exact hS.ud (wr_len (by omega))
theorem gw_src (h : Src J A r a st C) : Src (pj (pj J 7 1 (nI O.length)) 7 2 0) (ud A 8 (wr (A 8) 0 O)) r a st C := h.eq (by rw [pj_o (by decide), pj_o (by decide)]) (ud_n (by have := h.2.1; omega))
theorem cfr.rf (hS : Sh A) : cfr J A J A := ⟨hS, fun _ _ _ => rfl, fun _ _ => rfl⟩
theorem cfr.tr {J1 J2 : yJ} {A1 A2 : yA} (h1 : cfr J A J1 A1) (h2 : cfr J1 A1 J2 A2) : cfr J A J2 A2 := ⟨h2.1, fun o a b => (h2.2.1 o a b).trans (h1.2.1 o a b), fun j hj => (h2.2.2 j hj).trans (h1.2.2 j hj)⟩
theorem cfr.pj {J1 : yJ} {A1 : yA} (h : cfr J A J1 A1) {o k : Nat} {x : Int32} (ho : o = 7 ∨ o = 10) : cfr J A (pj J1 o k x) A1 := ⟨h.1, fun q a b => by rw [pj_row (by omega)]; exact h.2.1 q a b, h.2.2⟩
theorem cfr.ud {J1 : yJ} {A1 : yA} (h : cfr J A J1 A1) {k : Nat} {xs : List Int32} (hk : 8 ≤ k ∧ k ≤ 23) (hl : xs.length = (A1 k).length) : cfr J A J1 (ud A1 k xs) := ⟨h.1.ud hl, h.2.1, fun j hj => by rw [ud_n (by omega)]; exact h.2.2 j hj⟩
theorem gw_fr (hS : Sh A) (hO : O.length ≤ 200) : cfr J A (pj (pj (pj J 7 1 (nI O.length)) 7 2 0) 10 6 (nI (8 * st + p))) (ud A 8 (wr (A 8) 0 O)) := by
  have h8 : (A 8).length = 200 := hS 8
  exact ((((cfr.rf hS).pj (Or.inl rfl)).pj (Or.inl rfl)).pj (Or.inr rfl)).ud (by decide) (wr_len (by omega))
theorem cFl.tr {J1 : yJ} {A1 : yA} {f : Option (Int32 × zW)} (h1 : cfr J A J1 A1) (h2 : cFl J1 A1 r Q f) : cFl J A r Q f := by
  obtain ⟨J', A', e, q⟩ := h2
  exact ⟨J', A', e, h1.tr q⟩
theorem gw_fail (hS : Sh A) (hO : O.length ≤ 200) : cFl J A r Q (some (0, gwo J A r st Q p O)) := ⟨_, _, rfl, gw_fr hS hO⟩
theorem gw_o {α : Type} (X : Option α) : ((zobj (gwo J A r st Q p O) 10 5).bind fun _ => X) = X := rfl
theorem gw_g : getR (gwo J A r st Q p O) 10 5 0 = some 7 ∧ getR (gwo J A r st Q p O) 10 5 1 = some 11 ∧ getR (gwo J A r st Q p O) 10 5 2 = some 15 ∧ getR (gwo J A r st Q p O) 10 5 3 = some 19 ∧ getR (gwo J A r st Q p O) 10 5 4 = some 23 ∧ getR (gwo J A r st Q p O) 10 5 5 = some r ∧ getI (gwo J A r st Q p O) 10 5 6 = some (nI (8 * st + p)) ∧ getI (gwo J A r st Q p O) 10 5 7 = some (J 10 7) ∧ zobj (gwo J A r st Q p O) 7 0 = some [.inr (some 8), .inl (nI O.length), .inl 0] ∧ getI (gwo J A r st Q p O) 7 0 1 = some (nI O.length) ∧ getI (gwo J A r st Q p O) 7 0 2 = some 0 ∧ getR (gwo J A r st Q p O) 7 0 0 = some 8 := by
  refine ⟨rfl, rfl, rfl, rfl, rfl, rfl, rfl, rfl, rfl, rfl, rfl, rfl⟩
theorem gw_bits (hF : 20000 ≤ F) (h : Src J A r a st C) {n : Nat} (hn : n ≤ 16) (hp : p ≤ 8 * C.length) : f_Unpacker_takeBits F 10 (nI n) (gwo J A r st Q p O) = match tkS C p n with
    | some (v, q) => some (nI v, gwo J A r st Q q O)
    | none => some (-1, gwo J A r st Q (8 * C.length) O) := c_takeBits hF (gw_src h) hn hp
theorem CDt.gwo {c : Nat} {ls : List Nat} (hc : isC c) (hD : CDt A c ls) : CDt (ud A 8 (wr (A 8) 0 O)) c ls := by
  have := C_a hc
  unfold CDt
  rw [ud_n (by omega), ud_n (by omega)]
  exact hD
theorem gw_sym {ls : List Nat} {c : Nat} (hF : 20000 ≤ F) (h : Src J A r a st C) (hc : isC c) (hD : CDt A c ls) (hS : Sh A) (hn : ls.length ≤ 339) (hp : p ≤ 8 * C.length) (hO : O.length ≤ 200) : (∀ k q, symS ls C p = some (k, q) → f_Unpacker_takeSymbol F 10 c (gwo J A r st Q p O) = some (nI k, gwo J A r st Q q O)) ∧ (symS ls C p = none → ∃ q, q ≤ 8 * C.length ∧ f_Unpacker_takeSymbol F 10 c (gwo J A r st Q p O) = some (-1, gwo J A r st Q q O)) := c_symbol hF (gw_src h) hc (hD.gwo hc) (gw_S hS hO) hn hp
theorem gw_app (hS : Sh A) (hO : O.length < 200) (b : Int32) : f_Row_append F 7 b (gwo J A r st Q p O) = some ((), gwo J A r st Q p (O ++ [b])) := by
  have h8 : (A 8).length = 200 := hS 8
  unfold gwo uw
  rw [W_append (n := O.length) r78 (gw_S hS (by omega)) rfl hO, ud_s, ud_ud, wr_set (by rw [wr_len (by omega)]; omega)]
  have := wr_wr (xs := A 8) (n := 0) (X := O) (Y := [b]) (by rw [List.length_singleton]; omega)
  rw [Nat.zero_add] at this
  rw [this, List.length_append, List.length_singleton, pj_comm (o := 10) (k := 6) (p := 7) (q := 1) (Or.inl (by decide)), pj_comm (o := 7) (k := 2) (p := 7) (q := 1) (Or.inr (by decide)), pj_pj]
theorem gw_full (hS : Sh A) (hO : O.length = 200) (b : Int32) : ∃ J', f_Row_append F 7 b (gwo J A r st Q p O) = some ((), YW J' (ud A 8 (wr (A 8) 0 O)) r Q) ∧ cfr J A J' (ud A 8 (wr (A 8) 0 O)) ∧ J' 7 2 = 1 := by
  unfold gwo uw
  refine ⟨_, W_append_full (n := O.length) r78 (gw_S hS (by omega)) rfl hO, (gw_fr hS (by omega)).pj (Or.inl rfl), pj_s⟩
/-- repeatLength -/
theorem c_repL (hF : 20000 ≤ F) (h : Src J A r a st C) {sy : Nat} (h1 : 257 ≤ sy) (h2 : sy < 288) (hp : p ≤ 8 * C.length) : (∀ v q, sy ≤ 285 → tkS C p (xL sy) = some (v, q) → f_Unpacker_repeatLength F 10 (nI sy) (gwo J A r st Q p O) = some (nI (lL sy + v), gwo J A r st Q q O)) ∧ ((sy ≤ 285 → tkS C p (xL sy) = none) → ∃ q, f_Unpacker_repeatLength F 10 (nI sy) (gwo J A r st Q p O) = some (-1, gwo J A r st Q q O)) := by
  unfold f_Unpacker_repeatLength b_Unpacker_repeatLength_0
  by_cases c1 : sy < 265
  · have e0 : xL sy = 0 := by unfold xL; rw [if_pos (Or.inl c1)]
    have et : tkS C p (xL sy) = some (0, p) := by rw [e0]; unfold tkS; rw [if_pos (by omega)]; rfl
    rw [if_neg (show ¬ (265 : Int32) ≤ nI sy from nI_ge (b := 265) c1 (by decide))]
    refine ⟨?_, ?_⟩
    · intro v q _ e
      rw [et] at e
      cases e
      rw [show (254 : Int32) = nI 254 from rfl, pk_sub (by omega)]
      have : lL sy = sy - 254 := by unfold lL; rw [if_pos c1]
      rw [this, Nat.add_zero]
    · intro e
      have := e (by omega)
      rw [et] at this
      cases this
  · rw [if_pos (show (265 : Int32) ≤ nI sy from nI_le (a := 265) (by omega) (by omega))]
    by_cases c2 : sy < 285
    · rw [if_pos (show nI sy < (285 : Int32) from nI_lt (b := 285) c2 (by decide)), gw_o]
      have e0 : xL sy = (sy - 261) / 4 := by unfold xL; rw [if_neg (by omega)]; omega
      have hx := xL_le (show sy ≤ 285 by omega)
      have e1 : (nI sy - (261 : Int32)) / (4 : Int32) = nI (xL sy) := by
        rw [show (261 : Int32) = nI 261 from rfl, pk_sub (by omega), show (4 : Int32) = nI 4 from rfl, pk_div (by omega) (by decide) (by decide), e0]
      have e2 : ((4 : Int32) + ((nI sy - (265 : Int32)) % (4 : Int32))) <<< (nI (xL sy) &&& 31) = nI ((4 + (sy - 265) % 4) * 2 ^ xL sy) := by
        have h5 : 2 ^ xL sy ≤ 2 ^ 5 := Nat.pow_le_pow_right (by decide) hx
        have h6 : (4 + (sy - 265) % 4) * 2 ^ xL sy ≤ 7 * 2 ^ 5 := Nat.mul_le_mul (by omega) h5
        rw [show (265 : Int32) = nI 265 from rfl, pk_sub (by omega), show (4 : Int32) = nI 4 from rfl, nI_mod (by omega) (by decide) (by decide), nI_add, shlD (by omega) (by omega)]
      have el : lL sy = (4 + (sy - 265) % 4) * 2 ^ xL sy + 3 := by unfold lL; rw [if_neg c1, if_neg (by omega)]
      rw [e1, gw_bits hF h (by omega) hp]
      cases et : tkS C p (xL sy) with
      | none =>
        refine ⟨fun v q _ e => (by cases e), fun _ => ?_⟩
        rw [Option.bind_some]
        simp only []
        rw [if_pos trivial]
        exact ⟨_, rfl⟩
      | some x =>
        obtain ⟨v, q⟩ := x
        refine ⟨?_, fun e => (by cases e (by omega))⟩
        intro v' q' _ e
        cases e
        have hv := tkS_lt et
        have h5 : 2 ^ xL sy ≤ 2 ^ 5 := Nat.pow_le_pow_right (by decide) hx
        rw [Option.bind_some]
        simp only []
        rw [if_neg (nI_neg1 (by omega)), e2, show (3 : Int32) = nI 3 from rfl, nI_add, nI_add, el]
    · rw [if_neg (show ¬ nI sy < (285 : Int32) from nI_nlt (b := 285) (by omega) (by omega))]
      by_cases c3 : sy = 285
      · subst c3
        have et : tkS C p (xL 285) = some (0, p) := by
          show tkS C p 0 = _
          unfold tkS
          rw [if_pos (by omega)]
          rfl
        rw [if_pos (by decide)]
        refine ⟨fun v q _ e => ?_, fun e => ?_⟩
        · rw [et] at e
          cases e
          rfl
        · have := e (by decide)
          rw [et] at this
          cases this
      · rw [if_neg (show ¬ nI sy = (285 : Int32) from fun q => c3 ((nI_eq (b := 285) (by omega) (by decide)).mp q))]
        exact ⟨fun v q hle _ => by omega, fun _ => ⟨p, rfl⟩⟩
/-- repeatDistance -/
theorem c_repD {l2 : List Nat} (hF : 20000 ≤ F) (h : Src J A r a st C) (hD : CDt A 19 l2) (hS : Sh A) (hn : l2.length ≤ 32) (hp : p ≤ 8 * C.length) (hO : O.length ≤ 200) : (∀ t p2 u q, symS l2 C p = some (t, p2) → t ≤ 29 → tkS C p2 (xD t) = some (u, q) → f_Unpacker_repeatDistance F 10 (gwo J A r st Q p O) = some (nI (lD t + u), gwo J A r st Q q O)) ∧ ((∀ t p2, symS l2 C p = some (t, p2) → t ≤ 29 → tkS C p2 (xD t) = none) → ∃ q, f_Unpacker_repeatDistance F 10 (gwo J A r st Q p O) = some (-1, gwo J A r st Q q O)) := by
  have hsy := gw_sym (F := F) (Q := Q) (O := O) hF h (Or.inr (Or.inr rfl)) hD hS (by omega) hp hO
  unfold f_Unpacker_repeatDistance b_Unpacker_repeatDistance_0
  simp only [gw_g, Option.bind_some, gw_o]
  cases es : symS l2 C p with
  | none =>
    obtain ⟨q, hq, e⟩ := hsy.2 es
    refine ⟨fun t p2 u q e => (by cases e), fun _ => ⟨q, ?_⟩⟩
    rw [e, Option.bind_some]
    simp only []
    rw [if_neg (by decide), if_pos trivial]
  | some x =>
    obtain ⟨t, p2⟩ := x
    have e := hsy.1 t p2 es
    have ht := symS_lt es
    rw [e, Option.bind_some]
    simp only []
    by_cases c1 : t < 4
    · have e0 : xD t = 0 := by unfold xD; rw [if_pos c1]
      have et : tkS C p2 (xD t) = some (0, p2) := by rw [e0]; unfold tkS; rw [if_pos (by omega)]; rfl
      rw [if_neg (show ¬ (4 : Int32) ≤ nI t from nI_ge (b := 4) c1 (by decide)), if_neg (nI_neg1 (by omega)), nI_1]
      refine ⟨?_, ?_⟩
      · intro t' p2' u q ee _ e2
        cases ee
        rw [et] at e2
        cases e2
        have : lD t = t + 1 := by unfold lD; rw [if_pos c1]
        rw [this, Nat.add_zero]
      · intro e2
        have := e2 t p2 rfl (by omega)
        rw [et] at this
        cases this
    · rw [if_pos (show (4 : Int32) ≤ nI t from nI_le (a := 4) (by omega) (by omega))]
      by_cases c2 : t ≤ 29
      · have e0 : xD t = (t - 2) / 2 := by unfold xD; rw [if_neg c1]
        have hx := xD_le c2
        have e1 : (nI t - (2 : Int32)) / (2 : Int32) = nI (xD t) := by
          rw [show (2 : Int32) = nI 2 from rfl, pk_sub (by omega), pk_div (by omega) (by decide) (by decide), e0]
        have h5 : 2 ^ xD t ≤ 2 ^ 13 := Nat.pow_le_pow_right (by decide) hx
        have e2 : ((2 : Int32) + (nI t % (2 : Int32))) <<< (nI (xD t) &&& 31) = nI ((2 + t % 2) * 2 ^ xD t) := by
          have h6 : (2 + t % 2) * 2 ^ xD t ≤ 3 * 2 ^ 13 := Nat.mul_le_mul (by omega) h5
          rw [show (2 : Int32) = nI 2 from rfl, nI_mod (by omega) (by decide) (by decide), nI_add, shlD (by omega) (by omega)]
        have el : lD t = (2 + t % 2) * 2 ^ xD t + 1 := by unfold lD; rw [if_neg c1]
        rw [if_pos (show nI t < (30 : Int32) from nI_lt (b := 30) (by omega) (by decide)), e1, gw_bits hF h (by omega) ht.2.2]
        cases et : tkS C p2 (xD t) with
        | none =>
          refine ⟨fun t' p2' u q ee _ e3 => (by cases ee; rw [et] at e3; cases e3), fun _ => ?_⟩
          rw [Option.bind_some]
          simp only []
          rw [if_pos trivial]
          exact ⟨_, rfl⟩
        | some y =>
          obtain ⟨u, q⟩ := y
          refine ⟨?_, fun e3 => (by have := e3 t p2 rfl c2; rw [et] at this; cases this)⟩
          intro t' p2' u' q' ee _ e3
          cases ee
          rw [et] at e3
          cases e3
          have hv := tkS_lt et
          rw [Option.bind_some]
          simp only []
          rw [if_neg (nI_neg1 (by omega)), e2, nI_1, nI_add, el]
          rfl
      · rw [if_neg (show ¬ nI t < (30 : Int32) from nI_nlt (b := 30) (by omega) (by omega))]
        exact ⟨fun t' p2' u q ee hle _ => (by cases ee; omega), fun _ => ⟨p2, rfl⟩⟩
theorem c_rep_l (hS : Sh A) {n d : Nat} (hd : 0 < d) (hdO : d ≤ O.length) (hn : O.length + n ≤ 200) : ∀ (m k : Nat), k ≤ n → n - k < m → l_Unpacker_repeat_31 F m 10 (nI n) (nI d) (nI k) (gwo J A r st Q p (rpt O d k)) = some (1, gwo J A r st Q p (rpt O d n)) := by
  have h8 : (A 8).length = 200 := hS 8
  intro m
  induction m with
  | zero => intro k _ h; omega
  | succ m ih =>
    intro k hk hm
    show b_Unpacker_repeat_31 F (l_Unpacker_repeat_31 F m) 10 (nI n) (nI d) (nI k) (gwo J A r st Q p (rpt O d k)) = _
    unfold b_Unpacker_repeat_31
    have hlen := rpt_len O d k
    by_cases hlt : k < n
    · have hg : aget (gwo J A r st Q p (rpt O d k)) 8 (nI (O.length + k - d)) = some ((rpt O d k).getD (O.length + k - d) 0) := by
        refine ag_ (by decide) (by omega) ?_
        rw [ud_s, take_get (wr0_take (by omega)) (by omega), List.getD_eq_getElem?_getD, List.getElem?_eq_getElem (by omega)]
        rfl
      rw [if_neg (nI_ge hlt (by omega))]
      simp only [gw_g, Option.bind_some]
      rw [hlen, pk_sub (by omega), hg, Option.bind_some, gw_app hS (by omega), Option.bind_some, nI_1]
      exact ih (k + 1) (by omega) (by omega)
    · rw [if_pos (nI_le (by omega) (by omega)), show k = n by omega]
/-- repeat -/
theorem c_repeat (hF : 20000 ≤ F) (hS : Sh A) (hO : O.length ≤ 200) {n d : Nat} (hd : 0 < d) (hd2 : d < 2 ^ 30) (hn : n < 2 ^ 29) : f_Unpacker_repeat F 10 (nI n) (nI d) (gwo J A r st Q p O) = if d ≤ O.length ∧ O.length + n ≤ 200 then some (1, gwo J A r st Q p (rpt O d n)) else some (0, gwo J A r st Q p O) := by
  unfold f_Unpacker_repeat b_Unpacker_repeat_0 b_Unpacker_repeat_27
  rw [if_neg (nI_neg1 (by omega))]
  simp only [gw_g, Option.bind_some]
  by_cases c1 : d ≤ O.length
  · have hr : f_Row_hasRoom F 7 (nI n) (gwo J A r st Q p O) = some (if O.length + n ≤ 200 then 1 else 0, gwo J A r st Q p O) := W_room r78 (gw_S hS hO) rfl hO (by omega)
    rw [if_neg (nI_nlt c1 (by omega)), hr, Option.bind_some]
    by_cases c2 : O.length + n ≤ 200
    · rw [if_pos c2]
      simp only []
      rw [if_neg (show ¬ (1 : Int32) = 0 by decide), if_pos ⟨c1, c2⟩]
      exact c_rep_l hS hd c1 c2 F 0 (Nat.zero_le _) (by omega)
    · rw [if_neg c2]
      simp only []
      rw [if_pos trivial, if_neg (fun q => c2 q.2)]
  · rw [if_pos (nI_lt (by omega) (by omega)), if_neg (fun q => c1 q.1)]
/-- codedBlock -/
theorem c_cod_l {l1 l2 : List Nat} (hF : 20000 ≤ F) (h : Src J A r a st C) (hD1 : CDt A 15 l1) (hD2 : CDt A 19 l2) (hS : Sh A) (hn1 : l1.length ≤ 288) (hn2 : l2.length ≤ 32) : ∀ (m q step p : Nat) (O : List Int32), 8 * C.length - p < m → step ≤ p → 12800 - step < q → p ≤ 8 * C.length → O.length ≤ 200 → (∀ p' O', codS l1 l2 C m p O = some (p', O') → l_Unpacker_codedBlock_2 F q 10 (nI step) (gwo J A r st Q p O) = some (1, gwo J A r st Q p' O')) ∧ (codS l1 l2 C m p O = none → cFl J A r Q (l_Unpacker_codedBlock_2 F q 10 (nI step) (gwo J A r st Q p O))) := by
  have h5 := h.2.2.2.2.1
  intro m
  induction m with
  | zero => intro q step p O h; omega
  | succ m ih =>
    intro q step p O hm hst hq hp hO
    obtain ⟨q, rfl⟩ : ∃ q', q = q' + 1 := ⟨q - 1, by omega⟩
    have ef : l_Unpacker_codedBlock_2 F (q + 1) 10 (nI step) (gwo J A r st Q p O) = b_Unpacker_codedBlock_2 F (l_Unpacker_codedBlock_2 F q) 10 (nI step) (gwo J A r st Q p O) := rfl
    rw [ef]
    have hsy := gw_sym (F := F) (Q := Q) (O := O) hF h (Or.inr (Or.inl rfl)) hD1 hS (by omega) hp hO
    unfold codS b_Unpacker_codedBlock_2 b_Unpacker_codedBlock_75 b_Unpacker_codedBlock_77
    by_cases hlim : step < 12800
    · rw [if_neg (show ¬ (12800 : Int32) ≤ nI step from nI_ge (b := 12800) hlim (by decide))]
      simp only [gw_g, Option.bind_some, gw_o]
      cases es : symS l1 C p with
      | none =>
        obtain ⟨p1, hp1, e⟩ := hsy.2 es
        refine ⟨fun p' O' e => (by cases e), fun _ => ?_⟩
        rw [e, Option.bind_some]
        simp only []
        rw [if_neg (by decide), if_pos trivial]
        exact gw_fail hS hO
      | some x =>
        obtain ⟨sy, p1⟩ := x
        have e := hsy.1 sy p1 es
        have hb := symS_lt es
        rw [e, Option.bind_some]
        simp only []
        by_cases c1 : sy = 256
        · subst c1
          rw [if_pos (show nI 256 = (256 : Int32) from rfl), if_pos rfl]
          exact ⟨fun p' O' e => (by cases e; rfl), fun e => (by cases e)⟩
        · rw [if_neg (show ¬ nI sy = (256 : Int32) from fun z => c1 ((nI_eq (b := 256) (by omega) (by decide)).mp z)), if_neg (nI_neg1 (by omega)), if_neg c1]
          by_cases c2 : sy < 256
          · rw [if_neg (show ¬ (256 : Int32) ≤ nI sy from nI_ge (b := 256) c2 (by decide)), if_pos c2]
            by_cases c3 : O.length < 200
            · rw [if_pos c3]
              simp only [gw_g, Option.bind_some]
              rw [gw_app hS c3, Option.bind_some]
              simp only [gw_g, Option.bind_some]
              rw [if_pos trivial, nI_1]
              exact ih q (step + 1) p1 _ (by omega) (by omega) (by omega) hb.2.2 (by rw [List.length_append, List.length_singleton]; omega)
            · rw [if_neg c3]
              refine ⟨fun p' O' e => (by cases e), fun _ => ?_⟩
              obtain ⟨J', e1, e2, e3⟩ := gw_full (F := F) (J := J) (A := A) (r := r) (st := st) (Q := Q) (p := p1) (O := O) hS (by omega) (nI sy)
              simp only [gw_g, Option.bind_some]
              rw [e1, Option.bind_some]
              simp only [wg_U, wg_R, Option.bind_some]
              rw [e3, if_neg (by decide)]
              exact ⟨J', _, rfl, e2⟩
          · rw [if_pos (show (256 : Int32) ≤ nI sy from nI_le (a := 256) (by omega) (by omega)), if_neg c2, gw_o]
            have hL := c_repL (F := F) (Q := Q) (O := O) (p := p1) hF h (sy := sy) (by omega) (by omega) hb.2.2
            unfold repS
            by_cases c4 : sy ≤ 285
            · rw [if_pos c4]
              cases e1 : tkS C p1 (xL sy) with
              | none =>
                obtain ⟨q1, f1⟩ := hL.2 (fun _ => e1)
                refine ⟨fun p' O' e => (by cases e), fun _ => ?_⟩
                rw [f1, Option.bind_some]
                simp only []
                rw [if_pos trivial]
                exact gw_fail hS hO
              | some x1 =>
                obtain ⟨v, p2⟩ := x1
                have t1 := tkS_lt e1
                have hlL := lL_le c4
                have hx5 : 2 ^ xL sy ≤ 2 ^ 5 := Nat.pow_le_pow_right (by decide) (xL_le c4)
                rw [hL.1 v p2 c4 e1, Option.bind_some]
                simp only []
                rw [if_neg (nI_neg1 (by omega)), gw_o]
                have hDd := c_repD (F := F) (Q := Q) (O := O) (p := p2) hF h hD2 hS hn2 t1.2.2 hO
                have fail : (∀ t p3, symS l2 C p2 = some (t, p3) → t ≤ 29 → tkS C p3 (xD t) = none) → cFl J A r Q ((f_Unpacker_repeatDistance F 10 (gwo J A r st Q p2 O)).bind fun r66 => (zobj r66.2 10 5).bind fun _ => (f_Unpacker_repeat F 10 (nI (lL sy + v)) r66.1 r66.2).bind fun r69 => if r69.1 = 0 then some (0, r69.2) else (getR r69.2 10 5 0).bind fun x78 => (getI r69.2 x78 0 2).bind fun x81 => if x81 = 0 then (l_Unpacker_codedBlock_2 F q 10 (nI step + 1) r69.2) else (some ((0 : Int32), r69.2))) := by
                  intro hno
                  obtain ⟨q2, f2⟩ := hDd.2 hno
                  rw [f2, Option.bind_some]
                  simp only [gw_o]
                  unfold f_Unpacker_repeat b_Unpacker_repeat_0 b_Unpacker_repeat_27
                  rw [if_pos rfl, Option.bind_some]
                  simp only []
                  rw [if_pos trivial]
                  exact gw_fail hS hO
                cases e2 : symS l2 C p2 with
                | none => exact ⟨fun p' O' e => (by cases e), fun _ => fail (fun t p3 e => (by rw [e2] at e; cases e))⟩
                | some x2 =>
                  obtain ⟨t, p3⟩ := x2
                  have t2 := symS_lt e2
                  simp only []
                  by_cases c5 : t ≤ 29
                  · rw [if_pos c5]
                    cases e3 : tkS C p3 (xD t) with
                    | none => exact ⟨fun p' O' e => (by cases e), fun _ => fail (fun t' p3' e _ => (by rw [e2] at e; cases e; exact e3))⟩
                    | some x3 =>
                      obtain ⟨u, p4⟩ := x3
                      have t3 := tkS_lt e3
                      have hlD := lD_le c5
                      have hx13 : 2 ^ xD t ≤ 2 ^ 13 := Nat.pow_le_pow_right (by decide) (xD_le c5)
                      have hlp := lD_pos t
                      rw [hDd.1 t p3 u p4 e2 c5 e3, Option.bind_some]
                      simp only [gw_o]
                      rw [c_repeat hF hS hO (by omega) (by omega) (by omega)]
                      by_cases c6 : lD t + u ≤ O.length ∧ O.length + (lL sy + v) ≤ 200
                      · rw [if_pos c6, if_pos c6, Option.bind_some]
                        simp only [gw_g, Option.bind_some]
                        rw [if_neg (by decide), if_pos trivial, nI_1]
                        exact ih q (step + 1) p4 _ (by omega) (by omega) (by omega) t3.2.2 (by rw [rpt_len]; omega)
                      · rw [if_neg c6, if_neg c6, Option.bind_some]
                        simp only []
                        rw [if_pos trivial]
                        exact ⟨fun p' O' e => (by cases e), fun _ => gw_fail hS hO⟩
                  · rw [if_neg c5]
                    exact ⟨fun p' O' e => (by cases e), fun _ => fail (fun t' p3' e hle => (by rw [e2] at e; cases e; omega))⟩
            · rw [if_neg c4]
              obtain ⟨q1, f1⟩ := hL.2 (fun z => by omega)
              refine ⟨fun p' O' e => (by cases e), fun _ => ?_⟩
              rw [f1, Option.bind_some]
              simp only []
              rw [if_pos trivial]
              exact gw_fail hS hO
    · have hpe : ¬ p < 8 * C.length := by omega
      have es : symS l1 C p = none := by
        show syS l1 C (14 + 1) 1 0 p = none
        unfold syS
        rw [if_neg hpe]
      rw [if_pos (show (12800 : Int32) ≤ nI step from nI_le (a := 12800) (by omega) (by omega)), es]
      exact ⟨fun p' O' e => (by cases e), fun _ => gw_fail hS hO⟩
theorem c_coded {l1 l2 : List Nat} (hF : 20000 ≤ F) (h : Src J A r a st C) (hD1 : CDt A 15 l1) (hD2 : CDt A 19 l2) (hS : Sh A) (hn1 : l1.length ≤ 288) (hn2 : l2.length ≤ 32) (hp : p ≤ 8 * C.length) (hO : O.length ≤ 200) : (∀ p' O', codS l1 l2 C (8 * C.length + 1) p O = some (p', O') → f_Unpacker_codedBlock F 10 (gwo J A r st Q p O) = some (1, gwo J A r st Q p' O')) ∧ (codS l1 l2 C (8 * C.length + 1) p O = none → cFl J A r Q (f_Unpacker_codedBlock F 10 (gwo J A r st Q p O))) := c_cod_l hF h hD1 hD2 hS hn1 hn2 (8 * C.length + 1) F 0 p O (by omega) (Nat.zero_le _) (by omega) hp hO
/-- plainBlock -/
theorem c_plain (hF : 20000 ≤ F) (h : Src J A r a st C) (hS : Sh A) (hr : r ≠ 7) (hm : ∃ mm, J r 1 = nI mm ∧ st + C.length ≤ mm ∧ mm ≤ aL a) (hp : p ≤ 8 * C.length) (hO : O.length ≤ 200) : (∀ p' O', stS C p O = some (p', O') → f_Unpacker_plainBlock F 10 (gwo J A r st Q p O) = some (1, gwo J A r st Q p' O')) ∧ (stS C p O = none → cFl J A r Q (f_Unpacker_plainBlock F 10 (gwo J A r st Q p O))) := by
  have h5 := h.2.2.2.2.1
  have h8 : (A 8).length = 200 := hS 8
  have e0 : ((nI (8 * st + p) + (7 : Int32)) >>> ((3 : Int32) &&& 31)) <<< ((3 : Int32) &&& 31) = nI (8 * st + (p + 7) / 8 * 8) := by
    rw [show (7 : Int32) = nI 7 from rfl, nI_add, show (3 : Int32) = nI 3 from rfl, shrD (by decide) (by omega), shlD (by decide) (by omega)]
    congr 1
    omega
  have eput : putI (gwo J A r st Q p O) 10 5 6 (nI (8 * st + (p + 7) / 8 * 8)) = some (gwo J A r st Q ((p + 7) / 8 * 8) O) := uw_put _
  have n16 : ∀ pp, pp ≤ 8 * C.length → f_Unpacker_takeBits F 10 16 (gwo J A r st Q pp O) = match tkS C pp 16 with
    | some (v, q) => some (nI v, gwo J A r st Q q O)
    | none => some (-1, gwo J A r st Q (8 * C.length) O) := fun pp hpp => gw_bits (n := 16) hF h (by decide) hpp
  unfold f_Unpacker_plainBlock b_Unpacker_plainBlock_0 b_Unpacker_plainBlock_58 stS
  simp only [gw_g, Option.bind_some]
  rw [e0, eput, Option.bind_some, gw_o, n16 _ (by omega)]
  cases e1 : tkS C ((p + 7) / 8 * 8) 16 with
  | none =>
    have e2 : tkS C (8 * C.length) 16 = none := by unfold tkS; rw [if_neg (by omega)]
    refine ⟨fun p' O' e => (by cases e), fun _ => ?_⟩
    simp only [Option.bind_some, gw_o]
    rw [n16 _ (Nat.le_refl _), e2]
    simp only [Option.bind_some]
    rw [if_pos trivial]
    exact gw_fail hS hO
  | some x1 =>
    obtain ⟨n, p1⟩ := x1
    have t1 := tkS_lt e1
    simp only [Option.bind_some, gw_o]
    rw [n16 _ t1.2.2]
    cases e2 : tkS C p1 16 with
    | none =>
      refine ⟨fun p' O' e => (by cases e), fun _ => ?_⟩
      simp only [Option.bind_some]
      rw [if_neg (nI_neg1 (by omega)), if_neg]
      · exact gw_fail hS hO
      · rw [show (65535 : Int32) = nI 65535 from rfl, pk_sub (by omega)]
        exact fun z => nI_neg1 (by omega) z.symm
    | some x2 =>
      obtain ⟨m, p2⟩ := x2
      have t2 := tkS_lt e2
      simp only [Option.bind_some]
      rw [if_neg (nI_neg1 (by omega)), show (65535 : Int32) = nI 65535 from rfl, pk_sub (by omega)]
      by_cases c1 : n + m = 65535
      · rw [if_pos (show nI m = nI (65535 - n) by rw [show m = 65535 - n by omega])]
        simp only [gw_g, Option.bind_some]
        rw [h.2.2.2.1, pk_sub (by omega), show (8 : Int32) = nI 8 from rfl, pk_div (by omega) (by decide) (by decide)]
        by_cases c2 : p2 + 8 * n ≤ 8 * C.length
        · rw [if_pos (nI_le (by omega) (by omega)), pk_div (by omega) (by decide) (by decide), nI_add]
          obtain ⟨mm, m1, m2, m3⟩ := hm
          have hsrc := h.2.2.1
          have ed : (8 * st + p2) / 8 = st + p2 / 8 := by omega
          have hslice : ((A a).drop (st + p2 / 8)).take n = (C.drop (p2 / 8)).take n := by
            apply List.ext_getElem?
            intro i
            rw [List.getElem?_take, List.getElem?_take]
            by_cases hi : i < n
            · rw [if_pos hi, if_pos hi, List.getElem?_drop, List.getElem?_drop, Nat.add_assoc, hsrc (p2 / 8 + i) (by omega), (getB h.2.2.2.2.2 (show p2 / 8 + i < C.length by omega)).2]
            · rw [if_neg hi, if_neg hi]
          have hgJ : pj (pj (pj J 7 1 (nI O.length)) 7 2 0) 10 6 (nI (8 * st + p2)) r 1 = nI mm := by
            have hr10 : r ≠ 10 := by
              rcases h.1 with ⟨q, -⟩ | ⟨q, -⟩ | ⟨q, -⟩ | ⟨q, -⟩ | ⟨q, -⟩ <;> omega
            rw [pj_o hr10, pj_o hr, pj_o hr, m1]
          have ha8 : a ≠ 8 := by have := h.2.1; omega
          have hX : ((C.drop (p2 / 8)).take n).length = n := by rw [List.length_take, List.length_drop]; omega
          by_cases c3 : O.length + n ≤ 200
          · have hpart := W_part (F := F) (J := pj (pj (pj J 7 1 (nI O.length)) 7 2 0) 10 6 (nI (8 * st + p2))) (A := ud A 8 (wr (A 8) 0 O)) (s := r) (Q := Q) (n := O.length) (p := st + p2 / 8) (q := st + p2 / 8 + n) r78 h.1 (gw_S hS hO) rfl hO hgJ m3 (by omega) (by omega) (by show O.length + (st + p2 / 8 + n - (st + p2 / 8)) ≤ 200; omega)
            rw [ud_n ha8, Nat.add_sub_cancel_left, hslice] at hpart
            have hra : ra (pj (pj (pj J 7 1 (nI O.length)) 7 2 0) 10 6 (nI (8 * st + p2))) (ud A 8 (wr (A 8) 0 O)) r Q 7 8 O.length ((C.drop (p2 / 8)).take n) = gwo J A r st Q p2 (O ++ (C.drop (p2 / 8)).take n) := by
              unfold ra gwo uw
              have := wr_wr (xs := A 8) (n := 0) (X := O) (Y := (C.drop (p2 / 8)).take n) (by omega)
              rw [Nat.zero_add] at this
              rw [ud_s, ud_ud, this, List.length_append, pj_comm (o := 10) (k := 6) (p := 7) (q := 1) (Or.inl (by decide)), pj_comm (o := 7) (k := 2) (p := 7) (q := 1) (Or.inr (by decide)), pj_pj]
            rw [hra] at hpart
            rw [ed, show f_Row_appendPart F 7 r (nI (st + p2 / 8)) (nI (st + p2 / 8 + n)) (gwo J A r st Q p2 O) = _ from hpart, Option.bind_some]
            simp only [gw_g, Option.bind_some]
            rw [pk_mul, nI_add, show 8 * st + p2 + 8 * n = 8 * st + (p2 + 8 * n) by omega, show putI (gwo J A r st Q p2 (O ++ (C.drop (p2 / 8)).take n)) 10 5 6 (nI (8 * st + (p2 + 8 * n))) = some (gwo J A r st Q (p2 + 8 * n) (O ++ (C.drop (p2 / 8)).take n)) from uw_put _, Option.bind_some]
            simp only [gw_g, Option.bind_some]
            rw [if_pos trivial, if_pos ⟨c1, c2, c3⟩]
            exact ⟨fun p' O' e => (by cases e; rfl), fun e => (by cases e)⟩
          · have hpart := W_part_full (F := F) (J := pj (pj (pj J 7 1 (nI O.length)) 7 2 0) 10 6 (nI (8 * st + p2))) (A := ud A 8 (wr (A 8) 0 O)) (s := r) (Q := Q) (n := O.length) (p := st + p2 / 8) (q := st + p2 / 8 + n) r78 h.1 (gw_S hS hO) rfl hO hgJ m3 (by omega) (by omega) (by show ¬ O.length + (st + p2 / 8 + n - (st + p2 / 8)) ≤ 200; omega)
            rw [ed, show f_Row_appendPart F 7 r (nI (st + p2 / 8)) (nI (st + p2 / 8 + n)) (gwo J A r st Q p2 O) = _ from hpart, Option.bind_some]
            simp only [wg_U, wp_U, wg_R, Option.bind_some]
            rw [pj_o (show (7 : Nat) ≠ 10 by decide), pj_s, if_neg (show ¬ (1 : Int32) = 0 by decide), if_neg (fun z => c3 z.2.2)]
            refine ⟨fun p' O' e => (by cases e), fun _ => ⟨_, _, rfl, ((gw_fr hS hO).pj (Or.inl rfl)).pj (Or.inr rfl)⟩⟩
        · rw [if_neg (nI_ge (by omega) (by omega)), if_neg (fun z => c2 z.2.1)]
          exact ⟨fun p' O' e => (by cases e), fun _ => gw_fail hS hO⟩
      · rw [if_neg (show ¬ nI m = nI (65535 - n) from fun z => c1 (by have := (nI_eq (by omega) (by omega)).mp z; omega)), if_neg (fun z => c1 z.1)]
        exact ⟨fun p' O' e => (by cases e), fun _ => gw_fail hS hO⟩
end Cg
