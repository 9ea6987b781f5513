/-! Packed bytes given out, by both. -/
def bkS (C : List Int32) (kind p : Nat) (O : List Int32) : Option (Nat × List Int32) := if kind = 0 then stS C p O else if kind = 1 then codS fL1 fL2 C (8 * C.length + 1) p O else if kind = 2 then (match rcS C p with
  | none => none
  | some (l1, l2, q) => codS l1 l2 C (8 * C.length + 1) q O) else none
def blkS (C : List Int32) : Nat → Nat → List Int32 → Option (List Int32)
  | 0, _, _ => none
  | m + 1, p, O => match tkS C p 1 with
    | none => none
    | some (last, p1) => (match tkS C p1 2 with
      | none => none
      | some (kind, p2) => (match bkS C kind p2 O with
        | none => none
        | some (p3, O3) => if last = 1 then (if 8 * C.length - p3 < 8 then some O3 else none) else blkS C m p3 O3))
def unS (C : List Int32) : Option (List Int32) := blkS C (8 * C.length + 1) 0 []
theorem bkS_ok {C : List Int32} (hC : ∀ b ∈ C, isB b) {kind p q : Nat} {O O2 : List Int32} (h : bkS C kind p O = some (q, O2)) (hO : O.length ≤ 200) (hb : ∀ b ∈ O, isB b) : p < q ∧ q ≤ 8 * C.length ∧ O2.length ≤ 200 ∧ ∀ b ∈ O2, isB b := by
  unfold bkS at h
  split at h
  · exact stS_ok hC h hb
  · split at h
    · exact codS_ok (by rw [fL1_len]; decide) h hO hb
    · split at h
      · split at h
        · cases h
        · rename_i l1 l2 p1 h1
          have e1 := rcS_ok h1
          have e2 := codS_ok (by rw [e1.1]; decide) h hO hb
          exact ⟨by omega, e2.2⟩
      · cases h
theorem blkS_ok {C : List Int32} (hC : ∀ b ∈ C, isB b) : ∀ {m p : Nat} {O O2 : List Int32}, blkS C m p O = some O2 → O.length ≤ 200 → (∀ b ∈ O, isB b) → O2.length ≤ 200 ∧ ∀ b ∈ O2, isB b
  | 0, _, _, _, h, _, _ => by cases h
  | m + 1, p, O, O2, h, hO, hb => by
    unfold blkS at h
    split at h
    · cases h
    · split at h
      · cases h
      · split at h
        · cases h
        · rename_i p3 O3 h3
          have e3 := bkS_ok hC h3 hO hb
          split at h
          · split at h
            · cases h; exact e3.2.2
            · cases h
          · exact blkS_ok hC h e3.2.2.1 e3.2.2.2
theorem unS_ok {C O : List Int32} (hC : ∀ b ∈ C, isB b) (h : unS C = some O) : O.length ≤ 200 ∧ ∀ b ∈ O, isB b := blkS_ok hC h (by decide) (fun b hb => by cases hb)
section Cu
variable {J : yJ} {A : yA} {r a st : Nat} {Q : zW} {F p : Nat} {C O : List Int32}
/-- one block, by the class -/
theorem c_block (hF : 20000 ≤ F) (hS : Sh A) (hsrc : Src J A r a st C) (hr : r ≠ 7) (hm : ∃ mm, J r 1 = nI mm ∧ st + C.length ≤ mm ∧ mm ≤ aL a) (hO : O.length ≤ 200) (hp : p ≤ 8 * C.length) {kind : Nat} (hk : kind < 4) {K31 : Nat → Int32 → zW → Option (Int32 × zW)} {v4 v5 : Int32} :
    (∀ q O', bkS C kind p O = some (q, O') → ∃ A2, (if nI kind = 0 then ((zobj (gwo J A r st Q p O) 10 5).bind fun _ => (f_Unpacker_plainBlock F 10 (gwo J A r st Q p O)).bind fun r62 => b_Unpacker_unpacks_127 F K31 10 v4 v5 r62.1 r62.2) else (if nI kind = (1 : Int32) then ((zobj (gwo J A r st Q p O) 10 5).bind fun _ => (f_Unpacker_fixedCodes F 10 (gwo J A r st Q p O)).bind fun r77 => if r77.1 = 0 then (b_Unpacker_unpacks_94 F K31 10 v4 v5 r77.2) else ((zobj r77.2 10 5).bind fun _ => (f_Unpacker_codedBlock F 10 r77.2).bind fun r84 => if r84.1 = 0 then (b_Unpacker_unpacks_94 F K31 10 v4 v5 r84.2) else (b_Unpacker_unpacks_95 F K31 10 v4 v5 (1 : Int32) r84.2))) else (if nI kind = (2 : Int32) then ((zobj (gwo J A r st Q p O) 10 5).bind fun _ => (f_Unpacker_readCodes F 10 (gwo J A r st Q p O)).bind fun r107 => if r107.1 = 0 then (b_Unpacker_unpacks_124 F K31 10 v4 v5 r107.2) else ((zobj r107.2 10 5).bind fun _ => (f_Unpacker_codedBlock F 10 r107.2).bind fun r114 => if r114.1 = 0 then (b_Unpacker_unpacks_124 F K31 10 v4 v5 r114.2) else (b_Unpacker_unpacks_125 F K31 10 v4 v5 (1 : Int32) r114.2))) else (b_Unpacker_unpacks_127 F K31 10 v4 v5 (0 : Int32) (gwo J A r st Q p O))))) = b_Unpacker_unpacks_127 F K31 10 v4 v5 1 (gwo J A2 r st Q q O') ∧ cA A A2) ∧
    (bkS C kind p O = none → cFl J A r Q (if nI kind = 0 then ((zobj (gwo J A r st Q p O) 10 5).bind fun _ => (f_Unpacker_plainBlock F 10 (gwo J A r st Q p O)).bind fun r62 => b_Unpacker_unpacks_127 F K31 10 v4 v5 r62.1 r62.2) else (if nI kind = (1 : Int32) then ((zobj (gwo J A r st Q p O) 10 5).bind fun _ => (f_Unpacker_fixedCodes F 10 (gwo J A r st Q p O)).bind fun r77 => if r77.1 = 0 then (b_Unpacker_unpacks_94 F K31 10 v4 v5 r77.2) else ((zobj r77.2 10 5).bind fun _ => (f_Unpacker_codedBlock F 10 r77.2).bind fun r84 => if r84.1 = 0 then (b_Unpacker_unpacks_94 F K31 10 v4 v5 r84.2) else (b_Unpacker_unpacks_95 F K31 10 v4 v5 (1 : Int32) r84.2))) else (if nI kind = (2 : Int32) then ((zobj (gwo J A r st Q p O) 10 5).bind fun _ => (f_Unpacker_readCodes F 10 (gwo J A r st Q p O)).bind fun r107 => if r107.1 = 0 then (b_Unpacker_unpacks_124 F K31 10 v4 v5 r107.2) else ((zobj r107.2 10 5).bind fun _ => (f_Unpacker_codedBlock F 10 r107.2).bind fun r114 => if r114.1 = 0 then (b_Unpacker_unpacks_124 F K31 10 v4 v5 r114.2) else (b_Unpacker_unpacks_125 F K31 10 v4 v5 (1 : Int32) r114.2))) else (b_Unpacker_unpacks_127 F K31 10 v4 v5 (0 : Int32) (gwo J A r st Q p O)))))) := by
  have f127 : ∀ w, b_Unpacker_unpacks_127 F K31 10 v4 v5 0 w = some (0, w) := by
    intro w
    unfold b_Unpacker_unpacks_127
    rw [if_pos rfl]
  have f94 : ∀ w, b_Unpacker_unpacks_94 F K31 10 v4 v5 w = some (0, w) := fun w => f127 w
  have f124 : ∀ w, b_Unpacker_unpacks_124 F K31 10 v4 v5 w = some (0, w) := fun w => f127 w
  have ne : ∀ j : Nat, j < 4 → kind ≠ j → ¬ nI kind = nI j := fun j hj h q => h ((nI_eq (by omega) (by omega)).mp q)
  unfold bkS
  by_cases k0 : kind = 0
  · subst k0
    rw [if_pos rfl, if_pos (show nI 0 = (0 : Int32) from rfl), gw_o]
    have := c_plain (F := F) (Q := Q) (O := O) hF hsrc hS hr hm hp hO
    refine ⟨?_, ?_⟩
    · intro q O' e
      rw [this.1 q O' e, Option.bind_some]
      exact ⟨A, rfl, cA.rf hS⟩
    · intro e
      obtain ⟨J', A', q1, q2⟩ := this.2 e
      rw [q1, Option.bind_some]
      simp only []
      rw [f127]
      exact ⟨J', A', rfl, q2⟩
  · rw [if_neg k0, if_neg (show ¬ nI kind = (0 : Int32) from ne 0 (by decide) k0)]
    by_cases k1 : kind = 1
    · subst k1
      rw [if_pos rfl, if_pos (show nI 1 = (1 : Int32) from rfl), gw_o]
      obtain ⟨A2, e1, c1, d1, d2⟩ := c_fixed (F := F) (J := J) (A := A) (r := r) (st := st) (Q := Q) (p := p) (O := O) hF hS hO
      rw [e1, Option.bind_some]
      simp only []
      rw [if_neg (show ¬ (1 : Int32) = 0 by decide), gw_o]
      have := c_coded (F := F) (Q := Q) hF (c1.src hsrc) d1 d2 c1.1 (by rw [fL1_len]; decide) (by decide) hp hO
      refine ⟨?_, ?_⟩
      · intro q O' e
        rw [this.1 q O' e, Option.bind_some]
        simp only []
        rw [if_neg (show ¬ (1 : Int32) = 0 by decide)]
        exact ⟨A2, rfl, c1⟩
      · intro e
        obtain ⟨J', A', q1, q2⟩ := this.2 e
        rw [q1, Option.bind_some]
        simp only []
        rw [if_pos trivial, f94]
        exact ⟨J', A', rfl, c1.fr.tr q2⟩
    · rw [if_neg k1, if_neg (show ¬ nI kind = (1 : Int32) from ne 1 (by decide) k1)]
      by_cases k2 : kind = 2
      · subst k2
        rw [if_pos rfl, if_pos (show nI 2 = (2 : Int32) from rfl), gw_o]
        have hrc := c_readCodes (F := F) (J := J) (A := A) (r := r) (a := a) (st := st) (Q := Q) (p := p) (O := O) hF hS hsrc hO hp
        cases h1 : rcS C p with
        | none =>
          refine ⟨fun q O' e => (by cases e), fun _ => ?_⟩
          obtain ⟨J', A', q1, q2⟩ := hrc.2 h1
          rw [q1, Option.bind_some]
          simp only []
          rw [if_pos trivial, f124]
          exact ⟨J', A', rfl, q2⟩
        | some x =>
          obtain ⟨l1, l2, p1⟩ := x
          have t1 := rcS_ok h1
          obtain ⟨A2, e1, c1, d1, d2⟩ := hrc.1 l1 l2 p1 h1
          rw [e1, Option.bind_some]
          simp only []
          rw [if_neg (show ¬ (1 : Int32) = 0 by decide), gw_o]
          have := c_coded (F := F) (Q := Q) hF (c1.src hsrc) d1 d2 c1.1 (by omega) (by omega) t1.2.2.2.2.2 hO
          refine ⟨?_, ?_⟩
          · intro q O' e
            rw [this.1 q O' e, Option.bind_some]
            simp only []
            rw [if_neg (show ¬ (1 : Int32) = 0 by decide)]
            exact ⟨A2, rfl, c1⟩
          · intro e
            obtain ⟨J', A', q1, q2⟩ := this.2 e
            rw [q1, Option.bind_some]
            simp only []
            rw [if_pos trivial, f124]
            exact ⟨J', A', rfl, c1.fr.tr q2⟩
      · rw [if_neg k2, if_neg (show ¬ nI kind = (2 : Int32) from ne 2 (by decide) k2), f127]
        exact ⟨fun q O' e => (by cases e), fun _ => gw_fail hS hO⟩
theorem c_blocks (hF : 20000 ≤ F) (hr : r ≠ 7) (hr2 : a < 8) : ∀ (m q step p : Nat) (A : yA) (O : List Int32), Sh A → Src J A r a st C → (∃ mm, J r 1 = nI mm ∧ st + C.length ≤ mm ∧ mm ≤ aL a) → 8 * C.length - p < m → step ≤ p → 12800 - step < q → p ≤ 8 * C.length → O.length ≤ 200 → (∀ b ∈ O, isB b) → (∀ O', blkS C m p O = some O' → ∃ A2 p', l_Unpacker_unpacks_31 F q 10 (nI step) (gwo J A r st Q p O) = some (1, gwo J A2 r st Q p' O') ∧ cA A A2) ∧ (blkS C m p O = none → cFl J A r Q (l_Unpacker_unpacks_31 F q 10 (nI step) (gwo J A r st Q p O))) := by
  intro m
  induction m with
  | zero => intro q step p A O _ _ _ h; omega
  | succ m ih =>
    intro q step p A O hS hsrc hm hfu hst hq hp hO hb
    have h5 := hsrc.2.2.2.2.1
    obtain ⟨q, rfl⟩ : ∃ q', q = q' + 1 := ⟨q - 1, by omega⟩
    have ef : l_Unpacker_unpacks_31 F (q + 1) 10 (nI step) (gwo J A r st Q p O) = b_Unpacker_unpacks_31 F (l_Unpacker_unpacks_31 F q) 10 (nI step) (gwo J A r st Q p O) := rfl
    rw [ef]
    have n1 : ∀ pp, pp ≤ 8 * C.length → f_Unpacker_takeBits F 10 1 (gwo J A r st Q pp O) = match tkS C pp 1 with
      | some (v, q) => some (nI v, gwo J A r st Q q O)
      | none => some (-1, gwo J A r st Q (8 * C.length) O) := fun pp hpp => gw_bits (n := 1) hF hsrc (by decide) hpp
    have n2 : ∀ pp, pp ≤ 8 * C.length → f_Unpacker_takeBits F 10 2 (gwo J A r st Q pp O) = match tkS C pp 2 with
      | some (v, q) => some (nI v, gwo J A r st Q q O)
      | none => some (-1, gwo J A r st Q (8 * C.length) O) := fun pp hpp => gw_bits (n := 2) hF hsrc (by decide) hpp
    have f127 : ∀ (v5 : Int32) w, b_Unpacker_unpacks_127 F (l_Unpacker_unpacks_31 F q) 10 (nI step) v5 0 w = some (0, w) := by
      intro v5 w
      unfold b_Unpacker_unpacks_127
      rw [if_pos rfl]
    unfold blkS b_Unpacker_unpacks_31
    by_cases hlim : step < 12800
    · rw [if_neg (show ¬ (12800 : Int32) ≤ nI step from nI_ge (b := 12800) hlim (by decide)), gw_o, n1 p hp]
      cases h1 : tkS C p 1 with
      | none =>
        have e2 : tkS C (8 * C.length) 2 = none := by unfold tkS; rw [if_neg (by omega)]
        refine ⟨fun O' e => (by cases e), fun _ => ?_⟩
        simp only [Option.bind_some, gw_o]
        rw [n2 _ (Nat.le_refl _), e2]
        simp only [Option.bind_some]
        rw [if_neg (by decide), if_neg (by decide), if_neg (by decide), f127]
        exact gw_fail hS hO
      | some x1 =>
        obtain ⟨last, p1⟩ := x1
        have t1 := tkS_lt h1
        simp only [Option.bind_some, gw_o]
        rw [n2 _ t1.2.2]
        cases h2 : tkS C p1 2 with
        | none =>
          refine ⟨fun O' e => (by cases e), fun _ => ?_⟩
          simp only [Option.bind_some]
          rw [if_neg (by decide), if_neg (by decide), if_neg (by decide), f127]
          exact gw_fail hS hO
        | some x2 =>
          obtain ⟨kind, p2⟩ := x2
          have t2 := tkS_lt h2
          simp only [Option.bind_some]
          have hbk := c_block (F := F) (J := J) (A := A) (r := r) (a := a) (st := st) (Q := Q) (p := p2) (O := O) (C := C) hF hS hsrc hr hm hO t2.2.2 (kind := kind) t2.1 (K31 := l_Unpacker_unpacks_31 F q) (v4 := nI step) (v5 := nI last)
          cases h3 : bkS C kind p2 O with
          | none => exact ⟨fun O' e => (by cases e), fun _ => hbk.2 h3⟩
          | some x3 =>
            obtain ⟨p3, O3⟩ := x3
            have t3 := bkS_ok hsrc.2.2.2.2.2 h3 hO hb
            obtain ⟨A2, e2, c2⟩ := hbk.1 p3 O3 h3
            rw [e2]
            unfold b_Unpacker_unpacks_127
            simp only []
            rw [if_neg (show ¬ (1 : Int32) = 0 by decide)]
            have hm2 : ∃ mm, J r 1 = nI mm ∧ st + C.length ≤ mm ∧ mm ≤ aL a := hm
            by_cases c1 : last = 1
            · rw [if_pos (show nI last = (1 : Int32) by rw [c1]; rfl)]
              simp only [gw_g, Option.bind_some]
              rw [hsrc.2.2.2.1, pk_sub (by omega), if_pos c1]
              by_cases c3 : 8 * C.length - p3 < 8
              · rw [if_neg (show ¬ (8 : Int32) ≤ nI (8 * st + 8 * C.length - (8 * st + p3)) from nI_ge (b := 8) (by omega) (by decide)), if_pos c3]
                exact ⟨fun O' e => (by cases e; exact ⟨A2, p3, rfl, c2⟩), fun e => (by cases e)⟩
              · rw [if_pos (show (8 : Int32) ≤ nI (8 * st + 8 * C.length - (8 * st + p3)) from nI_le (a := 8) (by omega) (by omega)), if_neg c3]
                exact ⟨fun O' e => (by cases e), fun _ => cFl.cA c2 (gw_fail c2.1 t3.2.2.1)⟩
            · rw [if_neg (show ¬ nI last = (1 : Int32) from fun z => c1 ((nI_eq (b := 1) (by omega) (by decide)).mp z)), if_neg c1, nI_1]
              have := ih q (step + 1) p3 A2 O3 c2.1 (c2.src hsrc) hm2 (by omega) (by omega) (by omega) t3.2.1 t3.2.2.1 t3.2.2.2
              refine ⟨?_, fun z => cFl.cA c2 (this.2 z)⟩
              intro O' z
              obtain ⟨A3, p', q1, q2⟩ := this.1 O' z
              exact ⟨A3, p', q1, c2.tr q2⟩
    · have e1 : tkS C p 1 = none := by unfold tkS; rw [if_neg (by omega)]
      rw [if_pos (show (12800 : Int32) ≤ nI step from nI_le (a := 12800) (by omega) (by omega)), e1]
      exact ⟨fun O' e => (by cases e), fun _ => gw_fail hS hO⟩
/-- unpacks -/
theorem c_unpacks {s : Nat} (hF : 20000 ≤ F) (hS : Sh A) (hR : isR r a) (ha : a < 8) (hr : r ≠ 7) (hb : ∀ b ∈ C, isB b) (hm : ∃ mm, J r 1 = nI mm ∧ st + C.length ≤ mm ∧ mm ≤ aL a) (hx : ∀ i, i < C.length → (A a)[st + i]? = C[i]?) : (∀ O', unS C = some O' → ∃ J' A', f_Unpacker_unpacks F 10 r (nI st) (nI (st + C.length)) (YW J A s Q) = some (1, YW J' A' r Q) ∧ cfr J A J' A' ∧ J' 7 1 = nI O'.length ∧ (A' 8).take O'.length = O') ∧ (unS C = none → ∃ J' A', f_Unpacker_unpacks F 10 r (nI st) (nI (st + C.length)) (YW J A s Q) = some (0, YW J' A' r Q) ∧ cfr J A J' A') := by
  have h1600 : st + C.length ≤ 1600 := by
    obtain ⟨mm, -, h2, h3⟩ := hm
    have := (R_ne hR).2.1
    omega
  have hr10 : r ≠ 10 := by
    rcases hR with ⟨q, -⟩ | ⟨q, -⟩ | ⟨q, -⟩ | ⟨q, -⟩ | ⟨q, -⟩ <;> omega
  have hsrc : Src (pj J 10 7 (nI (8 * st + 8 * C.length))) A r a st C := ⟨hR, ha, fun i hi => by rw [hx i hi]; exact (getB hb hi).2, pj_s, h1600, hb⟩
  have estart : f_Unpacker_unpacks F 10 r (nI st) (nI (st + C.length)) (YW J A s Q) = l_Unpacker_unpacks_31 F F 10 (nI 0) (gwo (pj J 10 7 (nI (8 * st + 8 * C.length))) A r st Q 0 []) := by
    unfold f_Unpacker_unpacks b_Unpacker_unpacks_0
    simp only [wg_U, wo_R, Option.bind_some, W_empty r78, wp_U]
    rw [show (8 : Int32) = nI 8 from rfl, pk_mul, pk_mul, Nat.mul_add]
    unfold gwo uw
    rw [wr_nil, ud_id rfl, pj_comm (o := 10) (k := 6) (p := 10) (q := 7) (Or.inr (by decide)), pj_comm (o := 7) (k := 2) (p := 10) (q := 7) (Or.inl (by decide)), pj_comm (o := 7) (k := 1) (p := 10) (q := 7) (Or.inl (by decide))]
    rfl
  have hcf : cfr J A (pj J 10 7 (nI (8 * st + 8 * C.length))) A := (cfr.rf hS).pj (Or.inr rfl)
  have := c_blocks (F := F) (J := pj J 10 7 (nI (8 * st + 8 * C.length))) (r := r) (a := a) (st := st) (Q := Q) (C := C) hF hr ha (8 * C.length + 1) F 0 0 A [] hS hsrc (by
    obtain ⟨mm, h1, h2⟩ := hm
    exact ⟨mm, by rw [pj_o hr10]; exact h1, h2⟩) (by omega) (Nat.le_refl _) (by omega) (Nat.zero_le _) (Nat.zero_le _) (fun b hb => by cases hb)
  rw [estart]
  refine ⟨?_, ?_⟩
  · intro O' e
    obtain ⟨A2, p', q1, q2⟩ := this.1 O' e
    have hO' := unS_ok hb e
    have h8 : (A2 8).length = 200 := q2.1 8
    rw [q1]
    refine ⟨_, _, rfl, (hcf.tr q2.fr).tr (gw_fr q2.1 hO'.1), ?_, ?_⟩
    · rw [pj_o (by decide), pj_k (by decide), pj_s]
    · rw [ud_s]; exact wr0_take (by omega)
  · intro e
    obtain ⟨J', A', q1, q2⟩ := this.2 e
    exact ⟨J', A', q1, hcf.tr q2⟩
end Cu
section Mu
variable {J : yJ} {A : yA} {s : Nat} {Q : zW} {F p : Nat} {C O : List Int32}
theorem mA.wdt {A2 : yA} {fr : Nat} {ls : List Nat} (h : WDt A2 fr ls) : WDt A2 fr ls := h
/-- one block, by the reference -/
theorem m_block (hF : 20000 ≤ F) (hS : Sh A) (h47 : A 47 = mOrd) (hsrc : Srm J A C) (hO : O.length ≤ 200) (hp : p ≤ 8 * C.length) {kind : Nat} (hk : kind < 4) {K17 : Nat → Int32 → zW → Option (Int32 × zW)} {s0 : Int32} :
    (∀ q O', bkS C kind p O = some (q, O') → ∃ A2, (if nI kind = (3 : Int32) then (b_Model_unpacked_60 F K17 39 s0 (mw J A s Q p O)) else (if nI kind = 0 then ((zobj (mw J A s Q p O) 39 9).bind fun _ => (f_Model_storedBlock F 39 (mw J A s Q p O)).bind fun r73 => b_Model_unpacked_106 F K17 39 s0 r73.2) else (if nI kind = (1 : Int32) then ((zobj (mw J A s Q p O) 39 9).bind fun _ => (f_Model_fixCodes F 39 (mw J A s Q p O)).bind fun r85 => b_Model_unpacked_95 F K17 39 s0 r85.2) else ((zobj (mw J A s Q p O) 39 9).bind fun _ => (f_Model_readCodes F 39 (mw J A s Q p O)).bind fun r92 => b_Model_unpacked_95 F K17 39 s0 r92.2)))) = K17 39 s0 (mw J A2 s Q q O') ∧ mA A A2) ∧
    (bkS C kind p O = none → ∃ w', (if nI kind = (3 : Int32) then (b_Model_unpacked_60 F K17 39 s0 (mw J A s Q p O)) else (if nI kind = 0 then ((zobj (mw J A s Q p O) 39 9).bind fun _ => (f_Model_storedBlock F 39 (mw J A s Q p O)).bind fun r73 => b_Model_unpacked_106 F K17 39 s0 r73.2) else (if nI kind = (1 : Int32) then ((zobj (mw J A s Q p O) 39 9).bind fun _ => (f_Model_fixCodes F 39 (mw J A s Q p O)).bind fun r85 => b_Model_unpacked_95 F K17 39 s0 r85.2) else ((zobj (mw J A s Q p O) 39 9).bind fun _ => (f_Model_readCodes F 39 (mw J A s Q p O)).bind fun r92 => b_Model_unpacked_95 F K17 39 s0 r92.2)))) = K17 39 s0 w' ∧ mB J A s Q w') := by
  have ne : ∀ j : Nat, j < 4 → kind ≠ j → ¬ nI kind = nI j := fun j hj h q => h ((nI_eq (by omega) (by omega)).mp q)
  have cod : ∀ {A2 : yA} {l1 l2 : List Nat} {p1 : Nat}, mA A A2 → WDt A2 0 l1 → WDt A2 288 l2 → (∀ l ∈ l1, l ≤ 15) → (∀ l ∈ l2, l ≤ 15) → l1.length = 288 → l2.length = 32 → p1 ≤ 8 * C.length → (∀ q O', codS l1 l2 C (8 * C.length + 1) p1 O = some (q, O') → ∃ A3, b_Model_unpacked_95 F K17 39 s0 (mw J A2 s Q p1 O) = K17 39 s0 (mw J A3 s Q q O') ∧ mA A A3) ∧ (codS l1 l2 C (8 * C.length + 1) p1 O = none → ∃ w', b_Model_unpacked_95 F K17 39 s0 (mw J A2 s Q p1 O) = K17 39 s0 w' ∧ mB J A s Q w') := by
    intro A2 l1 l2 p1 hA d1 d2 a15 b15 hl1 hl2 hp1
    have := m_coded (F := F) (s := s) (Q := Q) hF (hA.src hsrc) hA.1 d1 d2 a15 b15 hl1 hl2 hp1 hO
    unfold b_Model_unpacked_95 b_Model_unpacked_106
    simp only [mw_g, Option.bind_some]
    rw [if_pos trivial, mw_o]
    refine ⟨?_, ?_⟩
    · intro q O' e
      rw [this.1 q O' e, Option.bind_some]
      exact ⟨A2, rfl, hA⟩
    · intro e
      obtain ⟨w', q1, q2⟩ := this.2 e
      rw [q1, Option.bind_some]
      exact ⟨w', rfl, mB.mA hA q2⟩
  unfold bkS
  by_cases k3 : kind = 3
  · subst k3
    rw [if_pos (show nI 3 = (3 : Int32) from rfl), if_neg (by decide), if_neg (by decide), if_neg (by decide)]
    refine ⟨fun q O' e => (by cases e), fun _ => ?_⟩
    unfold b_Model_unpacked_60 b_Model_unpacked_106
    obtain ⟨w', q1, q2⟩ := mw_p1B (J := J) (s := s) (Q := Q) (p := p) (O := O) hS (by omega)
    rw [q1, Option.bind_some]
    exact ⟨w', rfl, q2⟩
  · rw [if_neg (show ¬ nI kind = (3 : Int32) from ne 3 (by decide) k3)]
    by_cases k0 : kind = 0
    · subst k0
      rw [if_pos (show nI 0 = (0 : Int32) from rfl), if_pos rfl, mw_o]
      have := m_stored (F := F) (s := s) (Q := Q) hF hsrc hS hp hO
      unfold b_Model_unpacked_106
      refine ⟨?_, ?_⟩
      · intro q O' e
        rw [this.1 q O' e, Option.bind_some]
        exact ⟨A, rfl, mA.rf hS⟩
      · intro e
        obtain ⟨w', q1, q2⟩ := this.2 e
        rw [q1, Option.bind_some]
        exact ⟨w', rfl, q2⟩
    · rw [if_neg (show ¬ nI kind = (0 : Int32) from ne 0 (by decide) k0), if_neg k0]
      by_cases k1 : kind = 1
      · subst k1
        rw [if_pos (show nI 1 = (1 : Int32) from rfl), if_pos rfl, mw_o]
        obtain ⟨A2, e1, c1, d1, d2⟩ := m_fixed (F := F) (J := J) (A := A) (s := s) (Q := Q) (p := p) (O := O) hF hS (by omega)
        rw [e1, Option.bind_some]
        exact cod c1 d1 d2 fL1_15 fL2_15 fL1_len rfl hp
      · have k2 : kind = 2 := by omega
        subst k2
        rw [if_neg (show ¬ nI 2 = (1 : Int32) by decide), if_neg (by decide), if_pos rfl, mw_o]
        have hrc := m_readCodes (F := F) (J := J) (A := A) (s := s) (Q := Q) (p := p) (O := O) hF hS h47 hsrc hO hp
        cases h1 : rcS C p with
        | none =>
          refine ⟨fun q O' e => (by cases e), fun _ => ?_⟩
          obtain ⟨w', q1, q2⟩ := hrc.2 h1
          rw [q1, Option.bind_some]
          obtain ⟨J', A', rfl, g1, g2⟩ := q2
          unfold b_Model_unpacked_95 b_Model_unpacked_106
          simp only [wg_M, Option.bind_some]
          rw [g2, if_neg (show ¬ (1 : Int32) = 0 by decide)]
          exact ⟨_, rfl, J', A', rfl, g1, g2⟩
        | some x =>
          obtain ⟨l1, l2, p1⟩ := x
          have t1 := rcS_ok h1
          obtain ⟨A2, e1, c1, d1, d2⟩ := hrc.1 l1 l2 p1 h1
          rw [e1, Option.bind_some]
          exact cod c1 d1 d2 t1.2.2.1 t1.2.2.2.1 t1.1 t1.2.1 t1.2.2.2.2.2
theorem m_17b {m : Nat} (hm : 0 < m) (h : J 39 11 = 1) {x : Int32} : l_Model_unpacked_17 F m 39 x (YW J A s Q) = some (0, YW J A s Q) := by
  obtain ⟨m, rfl⟩ : ∃ q, m = q + 1 := ⟨m - 1, by omega⟩
  show b_Model_unpacked_17 F (l_Model_unpacked_17 F m) 39 x _ = _
  unfold b_Model_unpacked_17 b_Model_unpacked_109 b_Model_unpacked_137
  simp only [wg_M, Option.bind_some]
  rw [h, if_neg (show ¬ (1 : Int32) = 0 by decide)]
  exact ite_self _
theorem m_blocks (hF : 20000 ≤ F) : ∀ (m q p : Nat) (A : yA) (O : List Int32), Sh A → A 47 = mOrd → Srm J A C → 8 * C.length - p < m → 8 * C.length + 2 - p < q → p ≤ 8 * C.length → O.length ≤ 200 → (∀ b ∈ O, isB b) → (∀ O', blkS C m p O = some O' → ∃ A2 p', l_Model_unpacked_17 F q 39 0 (mw J A s Q p O) = some (1, mw J A2 s Q p' O') ∧ mA A A2) ∧ (blkS C m p O = none → ∃ J' A', l_Model_unpacked_17 F q 39 0 (mw J A s Q p O) = some (0, YW J' A' s Q) ∧ mfr J A J' A') := by
  intro m
  induction m with
  | zero => intro q p A O _ _ _ h; omega
  | succ m ih =>
    intro q p A O hS h47 hsrc hfu hq hp hO hb
    have h3 := hsrc.2.2.1
    obtain ⟨q, rfl⟩ : ∃ q', q = q' + 1 := ⟨q - 1, by omega⟩
    have ef : l_Model_unpacked_17 F (q + 1) 39 0 (mw J A s Q p O) = b_Model_unpacked_17 F (l_Model_unpacked_17 F q) 39 0 (mw J A s Q p O) := rfl
    rw [ef]
    have bad : ∀ {w : zW} (x : Int32), mB J A s Q w → ∃ J' A', l_Model_unpacked_17 F q 39 x w = some (0, YW J' A' s Q) ∧ mfr J A J' A' := by
      intro w x hw
      obtain ⟨J', A', rfl, g1, g2⟩ := hw
      exact ⟨J', A', m_17b (by omega) g2, g1⟩
    have hb1 := m_bit_ok (F := F) (s := s) (Q := Q) (p := p) (mw_src (O := O) hS (by omega) hsrc)
    have hb0 := m_bit_no (F := F) (s := s) (Q := Q) (p := p) (mw_src (O := O) hS (by omega) hsrc)
    have n2 : ∀ pp, pp ≤ 8 * C.length → (∀ v q, tkS C pp 2 = some (v, q) → f_Model_bits F 39 2 (mw J A s Q pp O) = some (nI v, mw J A s Q q O)) ∧ (tkS C pp 2 = none → ∃ v' w', f_Model_bits F 39 2 (mw J A s Q pp O) = some (v', w') ∧ mB J A s Q w') := fun pp hpp => mw_bits (n := 2) hF hsrc hS (by omega) (by decide) hpp
    unfold blkS b_Model_unpacked_17
    rw [if_pos rfl]
    simp only [mw_g, Option.bind_some]
    rw [if_pos trivial, mw_o]
    unfold tkS
    by_cases c0 : p < 8 * C.length
    · rw [if_pos (show p + 1 ≤ 8 * C.length by omega), show f_Model_bit F 39 (mw J A s Q p O) = _ from hb1 c0, Option.bind_some]
      have elast : bvS C p 1 = btS C p := by
        show 0 + btS C (p + 0) * 2 ^ 0 = btS C p
        rw [Nat.pow_zero, Nat.mul_one, Nat.zero_add, Nat.add_zero]
      have hlt := btS_lt C p
      simp only []
      rw [elast]
      -- from the second number on
      have rest : ∀ (s0 : Int32), s0 = nI (btS C p) → (∀ O', (match (if p + 1 + 2 ≤ 8 * C.length then some (bvS C (p + 1) 2, p + 1 + 2) else none) with
          | none => none
          | some (kind, p2) => (match bkS C kind p2 O with
            | none => none
            | some (p3, O3) => if btS C p = 1 then (if 8 * C.length - p3 < 8 then some O3 else none) else blkS C m p3 O3)) = some O' → ∃ A2 p', b_Model_unpacked_41 F (l_Model_unpacked_17 F q) 39 s0 (mw J A s Q (p + 1) O) = some (1, mw J A2 s Q p' O') ∧ mA A A2) ∧ ((match (if p + 1 + 2 ≤ 8 * C.length then some (bvS C (p + 1) 2, p + 1 + 2) else none) with
          | none => none
          | some (kind, p2) => (match bkS C kind p2 O with
            | none => none
            | some (p3, O3) => if btS C p = 1 then (if 8 * C.length - p3 < 8 then some O3 else none) else blkS C m p3 O3)) = none → ∃ J' A', b_Model_unpacked_41 F (l_Model_unpacked_17 F q) 39 s0 (mw J A s Q (p + 1) O) = some (0, YW J' A' s Q) ∧ mfr J A J' A') := by
        intro s0 es0
        have hn2 := n2 (p + 1) (by omega)
        unfold tkS at hn2
        unfold b_Model_unpacked_41
        rw [mw_o]
        by_cases c1 : p + 1 + 2 ≤ 8 * C.length
        · rw [if_pos c1] at hn2 ⊢
          rw [hn2.1 _ _ rfl, Option.bind_some]
          simp only [mw_g, Option.bind_some]
          rw [if_pos trivial]
          have hk := bvS_lt C (p + 1) 2
          have hbk := m_block (F := F) (J := J) (A := A) (s := s) (Q := Q) (p := p + 1 + 2) (O := O) (C := C) hF hS h47 hsrc hO c1 (kind := bvS C (p + 1) 2) hk (K17 := l_Model_unpacked_17 F q) (s0 := s0)
          cases h3 : bkS C (bvS C (p + 1) 2) (p + 1 + 2) O with
          | none =>
            refine ⟨fun O' e => (by cases e), fun _ => ?_⟩
            obtain ⟨w', q1, q2⟩ := hbk.2 h3
            rw [q1]
            exact bad s0 q2
          | some x3 =>
            obtain ⟨p3, O3⟩ := x3
            have t3 := bkS_ok hsrc.2.2.2 h3 hO hb
            obtain ⟨A2, e2, c2⟩ := hbk.1 p3 O3 h3
            rw [e2]
            simp only []
            by_cases c3 : btS C p = 1
            · rw [if_pos c3, es0, c3]
              obtain ⟨q, rfl⟩ : ∃ q', q = q' + 1 := ⟨q - 1, by omega⟩
              have ef2 : l_Model_unpacked_17 F (q + 1) 39 (nI 1) (mw J A2 s Q p3 O3) = b_Model_unpacked_17 F (l_Model_unpacked_17 F q) 39 (nI 1) (mw J A2 s Q p3 O3) := rfl
              rw [ef2]
              unfold b_Model_unpacked_17 b_Model_unpacked_109 b_Model_unpacked_137
              rw [if_neg (show ¬ nI 1 = (0 : Int32) by decide)]
              simp only [mw_g, Option.bind_some]
              rw [if_pos trivial, show getI (mw J A2 s Q p3 O3) 39 9 8 = some (J 39 8) from rfl, Option.bind_some, hsrc.2.1, show (7 : Int32) = nI 7 from rfl, nI_add, show (8 : Int32) = nI 8 from rfl, pk_div (by omega) (by decide) (by decide)]
              by_cases c4 : 8 * C.length - p3 < 8
              · rw [if_pos c4, if_pos (show nI ((p3 + 7) / 8) = nI C.length by rw [show (p3 + 7) / 8 = C.length by omega])]
                exact ⟨fun O' e => (by cases e; exact ⟨A2, p3, rfl, c2⟩), fun e => (by cases e)⟩
              · rw [if_neg c4, if_neg (fun z => by have := (nI_eq (by omega) (by omega)).mp z; omega)]
                refine ⟨fun O' e => (by cases e), fun _ => ⟨_, _, rfl, (c2.fr.tr (mw_b (O := O3) c2.1 (by omega))).tr ?_⟩⟩
                exact mu_fr (mw_S c2.1 (by omega))
            · rw [if_neg c3, es0, show btS C p = 0 by omega, show (nI 0 : Int32) = 0 from rfl]
              have := ih q p3 A2 O3 c2.1 (by rw [c2.2 47 (by omega)]; exact h47) (c2.src hsrc) (by omega) (by omega) t3.2.1 t3.2.2.1 t3.2.2.2
              refine ⟨?_, ?_⟩
              · intro O' z
                obtain ⟨A3, p', q1, q2⟩ := this.1 O' z
                exact ⟨A3, p', q1, c2.tr q2⟩
              · intro z
                obtain ⟨J', A', q1, q2⟩ := this.2 z
                exact ⟨J', A', q1, c2.fr.tr q2⟩
        · rw [if_neg c1] at hn2 ⊢
          refine ⟨fun O' e => (by cases e), fun _ => ?_⟩
          obtain ⟨v', w', f1, f2⟩ := hn2.2 rfl
          rw [f1, Option.bind_some]
          obtain ⟨J', A', rfl, g1, g2⟩ := f2
          unfold b_Model_unpacked_60 b_Model_unpacked_106
          simp only [wg_M, wp_M, Option.bind_some]
          rw [g2, if_neg (show ¬ (1 : Int32) = 0 by decide), pj_id g2, m_17b (by omega) g2]
          exact ⟨J', A', rfl, g1⟩
      by_cases c1 : btS C p = 1
      · rw [if_pos (show nI (btS C p) = (1 : Int32) by rw [c1]; rfl)]
        exact rest 1 (by rw [c1]; rfl)
      · rw [if_neg (show ¬ nI (btS C p) = (1 : Int32) from fun z => c1 ((nI_eq (b := 1) (by omega) (by decide)).mp z))]
        exact rest 0 (by rw [show btS C p = 0 by omega]; rfl)
    · rw [if_neg (show ¬ p + 1 ≤ 8 * C.length by omega)]
      refine ⟨fun O' e => (by cases e), fun _ => ?_⟩
      have hw := mB_pj (J := pj J 39 6 (nI O.length)) (A := ud A 42 (wr (A 42) 0 O)) (s := s) (Q := Q) (p := p) (k := 0) (mw_S hS (by omega))
      have hw2 := mw_bad hS (show O.length ≤ 400 by omega) hw
      rw [show f_Model_bit F 39 (mw J A s Q p O) = _ from hb0 c0 (by omega), Option.bind_some]
      simp only []
      rw [if_neg (by decide)]
      obtain ⟨J', A', e, g1, g2⟩ := hw2
      rw [e]
      obtain ⟨v, e2⟩ := m_bits_bad (F := F) (A := A') (s := s) (Q := Q) hF g2 (n := 2) (by decide)
      unfold b_Model_unpacked_41 b_Model_unpacked_60 b_Model_unpacked_106
      simp only [wo_M, Option.bind_some]
      rw [show f_Model_bits F 39 2 (YW J' A' s Q) = _ from e2, Option.bind_some]
      simp only [wg_M, wp_M, Option.bind_some]
      rw [g2, if_neg (show ¬ (1 : Int32) = 0 by decide), pj_id g2, m_17b (by omega) g2]
      exact ⟨J', A', rfl, g1⟩
/-- unpacked -/
theorem m_unpacked (hF : 20000 ≤ F) (hS : Sh A) (h47 : A 47 = mOrd) (hsrc : Srm J A C) : (∀ O', unS C = some O' → ∃ J' A', f_Model_unpacked F 39 (YW J A s Q) = some (1, YW J' A' s Q) ∧ mfr J A J' A' ∧ J' 39 6 = nI O'.length ∧ (A' 42).take O'.length = O') ∧ (unS C = none → ∃ J' A', f_Model_unpacked F 39 (YW J A s Q) = some (0, YW J' A' s Q) ∧ mfr J A J' A') := by
  have h3 := hsrc.2.2.1
  have := m_blocks (F := F) (J := J) (s := s) (Q := Q) (C := C) hF (8 * C.length + 1) F 0 A [] hS h47 hsrc (by omega) (by omega) (Nat.zero_le _) (by decide) (fun b hb => by cases hb)
  have e0 : f_Model_unpacked F 39 (YW J A s Q) = l_Model_unpacked_17 F F 39 0 (mw J A s Q 0 []) := by
    unfold f_Model_unpacked b_Model_unpacked_0
    simp only [wp_M, Option.bind_some]
    unfold mw mu
    rw [wr_nil, ud_id rfl]
    rfl
  rw [e0]
  refine ⟨?_, this.2⟩
  intro O' e
  obtain ⟨A2, p', q1, q2⟩ := this.1 O' e
  have hO' := unS_ok hsrc.2.2.2 e
  have h42 : (A2 42).length = 400 := q2.1 42
  rw [q1]
  refine ⟨_, _, rfl, (q2.fr.tr (mw_b q2.1 (by omega))).tr (mu_fr (mw_S q2.1 (by omega))), ?_, ?_⟩
  · rw [pj_k (by decide), pj_k (by decide), pj_s]
  · rw [ud_s]; exact wr0_take (by omega)
end Mu
