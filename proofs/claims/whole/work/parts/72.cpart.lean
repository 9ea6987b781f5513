/-! A part of the directory: what it says, and the class's reading of it. -/
def mkE (nm fl me cr pk sz of_ st en : Nat) : Nat → Nat := fun j => match j with
  | 0 => nm
  | 1 => fl
  | 2 => me
  | 3 => cr
  | 4 => pk
  | 5 => sz
  | 6 => of_
  | 7 => st
  | 8 => en
  | _ => 0
def far (L : List Int32) (p : Nat) : Nat := if nvL L p 4 = 4294967295 then 8 else 0
def tl (L : List Int32) (p q : Nat) : Nat := if nvL L p 4 = 4294967295 then nvL L q 8 else nvL L p 4
def numS (L : List Int32) (ds p pl len : Nat) : Option (Nat × Nat × Nat) :=
  if far L (p + 24) + far L (p + 20) + far L (p + 42) ≤ len ∧ tl L (p + 24) pl ≤ 200 ∧ tl L (p + 20) (pl + far L (p + 24)) ≤ ds ∧ tl L (p + 42) (pl + far L (p + 24) + far L (p + 20)) ≤ ds then
    some (tl L (p + 24) pl, tl L (p + 20) (pl + far L (p + 24)), tl L (p + 42) (pl + far L (p + 24) + far L (p + 20))) else none
def is8 (n : Nat) : Prop := n = 0 ∨ n = 8
def joinE (fl me cr st en : Nat) : Option Nat → Option (Nat × Nat × Nat) → Option (Nat → Nat)
  | some nm, some (sz, pk, of_) => some (mkE nm fl me cr pk sz of_ st en)
  | some _, none => none
  | none, _ => none
def rpS (L : List Int32) (ds de p : Nat) : Option (Nat → Nat) :=
  if p + 46 ≤ de ∧ nvL L p 4 = 33639248 ∧ p + 46 + nvL L (p + 28) 2 + nvL L (p + 30) 2 + nvL L (p + 32) 2 ≤ de ∧ (nvL L (p + 10) 2 = 0 ∨ nvL L (p + 10) 2 = 8) ∧ (nvL L (p + 8) 2 = 0 ∨ nvL L (p + 8) 2 = 8) ∧ recW L (p + 46 + nvL L (p + 28) 2 + nvL L (p + 30) 2) (p + 46 + nvL L (p + 28) 2 + nvL L (p + 30) 2) (p + 46 + nvL L (p + 28) 2) = true then
    joinE (nvL L (p + 8) 2) (nvL L (p + 10) 2) (nvL L (p + 16) 4) p (p + 46 + nvL L (p + 28) 2 + nvL L (p + 30) 2 + nvL L (p + 32) 2) (nameS L (p + 46) (nvL L (p + 28) 2)) (numS L ds p (rP (recF L (p + 46 + nvL L (p + 28) 2 + nvL L (p + 30) 2) (p + 46 + nvL L (p + 28) 2 + nvL L (p + 30) 2) (p + 46 + nvL L (p + 28) 2)) (p + 46 + nvL L (p + 28) 2 + nvL L (p + 30) 2)) (rL (recF L (p + 46 + nvL L (p + 28) 2 + nvL L (p + 30) 2) (p + 46 + nvL L (p + 28) 2 + nvL L (p + 30) 2) (p + 46 + nvL L (p + 28) 2))))
  else none
theorem recF_le {L : List Int32} {to : Nat} : ∀ {q p pl len : Nat}, recW L to q p = true → recF L to q p = some (pl, len) → p + 4 ≤ pl ∧ pl + len ≤ to
  | 0, p, pl, len, _, h => by cases h
  | q + 1, p, pl, len, hw, h => by
    unfold recF at h
    unfold recW at hw
    split at h
    · rename_i hc
      rw [if_pos hc] at hw
      split at h
      · cases h
        refine ⟨Nat.le_refl _, ?_⟩
        exact recW_le hw
      · have := recF_le hw h
        omega
    · cases h
where
  recW_le {L : List Int32} {to : Nat} : ∀ {q p : Nat}, recW L to q p = true → p ≤ to
    | 0, p, h => by
      have := of_decide_eq_true h
      omega
    | q + 1, p, h => by
      unfold recW at h
      split at h
      · have := recW_le h
        omega
      · have := of_decide_eq_true h
        omega
theorem rPL_le {L : List Int32} {to q p : Nat} (hw : recW L to q p = true) : rP (recF L to q p) to + rL (recF L to q p) ≤ to := by
  cases h : recF L to q p with
  | none => exact Nat.le_refl _
  | some x =>
    obtain ⟨pl, len⟩ := x
    exact (recF_le hw h).2
section Cp
variable {J : yJ} {A : yA} {s : Nat} {Q : zW} {L : List Int32} {F k p pl en ds de v : Nat}
theorem c_told (hF : 20000 ≤ F) (h : FI J A L) (hv : v < 2 ^ 64) (h3 : J 25 3 = nI pl) (h4 : J 25 4 = nI en) (hpl : pl ≤ en) (hen : en ≤ L.length) : ∃ J', f_Extras_told F 25 (lN_ v) (YW J A s Q) = some (lN_ (if v = 4294967295 ∧ pl + 8 ≤ en then nvL L pl 8 else v), YW J' A s Q) ∧ J' 25 3 = nI (if v = 4294967295 ∧ pl + 8 ≤ en then pl + 8 else pl) ∧ J' 25 4 = nI en ∧ J' 25 2 = (if v = 4294967295 ∧ ¬ pl + 8 ≤ en then 1 else J 25 2) ∧ ∀ o, o ≠ 25 → J' o = J o := by
  have hl := h.2.2.2.1
  unfold f_Extras_told b_Extras_told_0
  rw [show (4294967295 : Int64) = lN_ 4294967295 from rfl]
  by_cases hw : v = 4294967295
  · rw [if_pos ((lg_ln hv (by decide)).mpr hw)]
    simp only [wg_X, Option.bind_some, h3, h4]
    rw [pk_sub hpl, show (8 : Int32) = nI 8 from rfl]
    by_cases h8 : pl + 8 ≤ en
    · rw [if_pos (nI_le (by omega) (by omega)), if_pos ⟨hw, h8⟩, if_pos ⟨hw, h8⟩, if_neg (fun q => q.2 h8)]
      simp only [wp_X, wg_X, Option.bind_some, R_o hr3]
      rw [pj_s, nI_add, pk_sub (by omega), show pl + 8 - 8 = pl by omega, W_number hF (h.pj (Or.inl (by decide))) (by omega) (by decide), Option.bind_some]
      exact ⟨_, rfl, pj_s, by rw [pj_k (by decide)]; exact h4, by rw [pj_k (by decide)], fun o ho => pj_row ho⟩
    · rw [if_neg (nI_ge (by omega) (by decide)), if_neg (fun q => h8 q.2), if_neg (fun q => h8 q.2), if_pos ⟨hw, h8⟩]
      simp only [wp_X, Option.bind_some]
      exact ⟨_, rfl, by rw [pj_k (by decide)]; exact h3, by rw [pj_k (by decide)]; exact h4, pj_s, fun o ho => pj_row ho⟩
  · rw [if_neg (fun q => hw ((lg_ln hv (by decide)).mp q)), if_neg (fun q => hw q.1), if_neg (fun q => hw q.1), if_neg (fun q => hw q.1)]
    exact ⟨J, rfl, h3, h4, rfl, fun _ _ => rfl⟩
theorem FI.eq {J' : yJ} (h : FI J A L) (e : J' 3 = J 3) : FI J' A L := ⟨h.1, by rw [e]; exact h.2.1, h.2.2⟩
/-- three told numbers, one behind the other -/
theorem told3 (L : List Int32) (a b c pl len : Nat) :
    let f1 := if a = 4294967295 ∧ pl + 8 ≤ pl + len then pl + 8 else pl
    let f2 := if b = 4294967295 ∧ f1 + 8 ≤ pl + len then f1 + 8 else f1
    let wa := if a = 4294967295 then 8 else 0
    let wb := if b = 4294967295 then 8 else 0
    let wc := if c = 4294967295 then 8 else 0
    ((¬ (a = 4294967295 ∧ ¬ pl + 8 ≤ pl + len) ∧ ¬ (b = 4294967295 ∧ ¬ f1 + 8 ≤ pl + len) ∧ ¬ (c = 4294967295 ∧ ¬ f2 + 8 ≤ pl + len)) ↔ wa + wb + wc ≤ len) ∧ f1 ≤ pl + len ∧ f2 ≤ pl + len ∧
    (wa + wb + wc ≤ len → (if a = 4294967295 ∧ pl + 8 ≤ pl + len then nvL L pl 8 else a) = (if a = 4294967295 then nvL L pl 8 else a) ∧ (if b = 4294967295 ∧ f1 + 8 ≤ pl + len then nvL L f1 8 else b) = (if b = 4294967295 then nvL L (pl + wa) 8 else b) ∧ (if c = 4294967295 ∧ f2 + 8 ≤ pl + len then nvL L f2 8 else c) = (if c = 4294967295 then nvL L (pl + wa + wb) 8 else c)) := by
  by_cases h4 : 8 ≤ len
  · by_cases h5 : 16 ≤ len
    · have h7 : pl + 8 + 8 ≤ pl + len := by omega
      by_cases h6 : 24 ≤ len
      · have h8 : pl + 8 + 8 + 8 ≤ pl + len := by omega
        by_cases h1 : a = 4294967295 <;> by_cases h2 : b = 4294967295 <;> by_cases h3 : c = 4294967295 <;> simp [h1, h2, h3, h4, h5, h6, h7, h8] <;> omega
      · have h8 : ¬ pl + 8 + 8 + 8 ≤ pl + len := by omega
        by_cases h1 : a = 4294967295 <;> by_cases h2 : b = 4294967295 <;> by_cases h3 : c = 4294967295 <;> simp [h1, h2, h3, h4, h5, h6, h7, h8] <;> omega
    · have h6 : ¬ 24 ≤ len := by omega
      have h7 : ¬ pl + 8 + 8 ≤ pl + len := by omega
      have h8 : ¬ pl + 8 + 8 + 8 ≤ pl + len := by omega
      by_cases h1 : a = 4294967295 <;> by_cases h2 : b = 4294967295 <;> by_cases h3 : c = 4294967295 <;> simp [h1, h2, h3, h4, h5, h6, h7, h8] <;> omega
  · have h5 : ¬ 16 ≤ len := by omega
    have h6 : ¬ 24 ≤ len := by omega
    have h7 : ¬ pl + 8 + 8 ≤ pl + len := by omega
    have h8 : ¬ pl + 8 + 8 + 8 ≤ pl + len := by omega
    by_cases h1 : a = 4294967295 <;> by_cases h2 : b = 4294967295 <;> by_cases h3 : c = 4294967295 <;> simp [h1, h2, h3, h4, h5, h6, h7, h8] <;> omega
theorem tl_64 (hb : ∀ b ∈ L, isB b) {p q : Nat} : tl L p q < 2 ^ 64 := by
  unfold tl
  split
  · exact nvL_64 hb (by decide)
  · exact nvL_64 hb (by decide)
/-- a number's bounds, as the class asks for them -/
theorem inc {a b : Nat} (ha : a < 2 ^ 64) (hb : b < 2 ^ 63) {X Y : Option (Int32 × zW)} : (if (lg_cmp (lN_ a) (0 : Int64)) < 0 then Y else (if 0 < (lg_cmp (lN_ a) (lN_ b)) then Y else X)) = if a ≤ b then X else Y := by
  have hin := ln_in ha hb
  by_cases h2 : a ≤ b
  · have hi := hin.mpr h2
    rw [if_neg (fun q => Int64.not_lt.mpr hi.1 (lg_neg.mp q)), if_neg (fun q => Int64.not_lt.mpr hi.2 (lg_pos.mp q)), if_pos h2]
  · rw [if_neg h2]
    by_cases h3 : (0 : Int64) ≤ lN_ a
    · rw [if_neg (fun q => Int64.not_lt.mpr h3 (lg_neg.mp q)), if_pos]
      exact lg_pos.mpr (Int64.not_le.mp (fun z => h2 (hin.mp ⟨h3, z⟩)))
    · rw [if_pos (lg_neg.mpr (Int64.not_le.mp h3))]
theorem le_flip {u v : Int64} {X Y : Option (Int32 × zW)} : (if (lg_cmp u v) ≤ 0 then X else Y) = (if 0 < lg_cmp u v then Y else X) := by
  by_cases h : 0 < lg_cmp u v
  · rw [if_pos h, if_neg (Int32.not_le.mpr h)]
  · rw [if_neg h, if_pos (Int32.not_lt.mp h)]
theorem c_numbers (hF : 20000 ≤ F) (h : FI J A L) (hk : k < 8) {len : Nat} (h7 : J (27 + k) 7 = nI p) (h2 : J 25 2 = 0) (h3 : J 25 3 = nI pl) (h4 : J 25 4 = nI (pl + len)) (hds : J 24 4 = nI ds) (hd : ds < 2 ^ 31) (hp : p + 46 ≤ L.length) (hen : pl + len ≤ L.length) : ∃ J', f_Archive_takeNumbers F 24 (27 + k) (YW J A s Q) = some (if (numS L ds p pl len).isSome then 1 else 0, YW J' A s Q) ∧ (∀ o, o ≠ 25 → o ≠ 27 + k → J' o = J o) ∧ (∀ j, j ≠ 4 → j ≠ 5 → j ≠ 6 → J' (27 + k) j = J (27 + k) j) ∧ ∀ sz pk of_, numS L ds p pl len = some (sz, pk, of_) → J' (27 + k) 5 = nI sz ∧ J' (27 + k) 4 = nI pk ∧ J' (27 + k) 6 = nI of_ := by
  have hb := h.2.2.2.2
  have hl := h.2.2.2.1
  have hz : ∀ p : Nat, nvL L p 4 < 2 ^ 64 := fun p => nvL_64 hb (by decide)
  obtain ⟨tA, tB, tC, tD⟩ := told3 L (nvL L (p + 24) 4) (nvL L (p + 20) 4) (nvL L (p + 42) 4) pl len
  obtain ⟨J1, e1, a3, a4, a2, ao⟩ := c_told (s := s) (Q := Q) (v := nvL L (p + 24) 4) hF h (hz _) h3 h4 (by omega) hen
  have h1' : FI J1 A L := h.eq (ao 3 (by decide))
  obtain ⟨J2, e2, b3, b4, b2, bo⟩ := c_told (s := s) (Q := Q) (v := nvL L (p + 20) 4) hF h1' (hz _) a3 a4 tB hen
  have h2' : FI J2 A L := h1'.eq (bo 3 (by decide))
  obtain ⟨J3, e3, c3, c4, c2, co⟩ := c_told (s := s) (Q := Q) (v := nvL L (p + 42) 4) hF h2' (hz _) b3 b4 tC hen
  have g1 : J1 (27 + k) = J (27 + k) := ao _ (by omega)
  have g2 : J2 (27 + k) = J (27 + k) := (bo _ (by omega)).trans g1
  have g3 : J3 (27 + k) = J (27 + k) := (co _ (by omega)).trans g2
  have o3 : ∀ o, o ≠ 25 → J3 o = J o := fun o ho => (co o ho).trans ((bo o ho).trans (ao o ho))
  unfold f_Archive_takeNumbers b_Archive_takeNumbers_0 b_Archive_takeNumbers_131
  simp only [wg_A, Option.bind_some, R_o hr3, wo_X]
  rw [we_g _ _ _ _ hk (by decide), Option.bind_some, h7, show (24 : Int32) = nI 24 from rfl, nI_add, show (4 : Int32) = nI 4 from rfl, W_number hF h (by omega) (by decide), Option.bind_some]
  simp only [wo_X, Option.bind_some]
  rw [e1, Option.bind_some]
  simp only [wg_A, Option.bind_some, R_o hr3, wo_X]
  rw [we_g _ _ _ _ hk (by decide), Option.bind_some, g1, h7, show (20 : Int32) = nI 20 from rfl, nI_add, W_number hF h1' (by omega) (by decide), Option.bind_some]
  simp only [wo_X, Option.bind_some]
  rw [e2, Option.bind_some]
  simp only [wg_A, Option.bind_some, R_o hr3, wo_X]
  rw [we_g _ _ _ _ hk (by decide), Option.bind_some, g2, h7, show (42 : Int32) = nI 42 from rfl, nI_add, W_number hF h2' (by omega) (by decide), Option.bind_some]
  simp only [wo_X, Option.bind_some]
  rw [e3, Option.bind_some]
  simp only [wg_A, wg_X, Option.bind_some]
  have no : ∀ X : Option (Int32 × zW), X = some (0, YW J3 A s Q) → numS L ds p pl len = none → ∃ J', X = some (if (numS L ds p pl len).isSome then 1 else 0, YW J' A s Q) ∧ (∀ o, o ≠ 25 → o ≠ 27 + k → J' o = J o) ∧ (∀ j, j ≠ 4 → j ≠ 5 → j ≠ 6 → J' (27 + k) j = J (27 + k) j) ∧ ∀ sz pk of_, numS L ds p pl len = some (sz, pk, of_) → J' (27 + k) 5 = nI sz ∧ J' (27 + k) 4 = nI pk ∧ J' (27 + k) 6 = nI of_ := by
    intro X hX e
    refine ⟨J3, by rw [hX, e]; rfl, fun o ho _ => o3 o ho, fun j _ _ _ => by rw [g3], ?_⟩
    intro sz pk of_ q
    rw [e] at q
    cases q
  rw [c2, b2, a2, h2]
  by_cases hlk : far L (p + 24) + far L (p + 20) + far L (p + 42) ≤ len
  · obtain ⟨n1, n2, n3⟩ := tA.mpr hlk
    obtain ⟨v1, v2, v3⟩ := tD hlk
    rw [if_neg n3, if_neg n2, if_neg n1, if_pos rfl, v1, v2, v3]
    have t1 : (if nvL L (p + 24) 4 = 4294967295 then nvL L pl 8 else nvL L (p + 24) 4) = tl L (p + 24) pl := rfl
    have t2 : (if nvL L (p + 20) 4 = 4294967295 then nvL L (pl + if nvL L (p + 24) 4 = 4294967295 then 8 else 0) 8 else nvL L (p + 20) 4) = tl L (p + 20) (pl + far L (p + 24)) := rfl
    have t3 : (if nvL L (p + 42) 4 = 4294967295 then nvL L ((pl + if nvL L (p + 24) 4 = 4294967295 then 8 else 0) + if nvL L (p + 20) 4 = 4294967295 then 8 else 0) 8 else nvL L (p + 42) 4) = tl L (p + 42) (pl + far L (p + 24) + far L (p + 20)) := rfl
    rw [t1, t2, t3, show (200 : Int64) = lN_ 200 from rfl, o3 24 (by decide), hds, ex_bv hd, le_flip, inc (tl_64 hb) (by omega), inc (tl_64 hb) (by omega), inc (tl_64 hb) (by omega)]
    by_cases q1 : tl L (p + 24) pl ≤ 200
    · rw [if_pos q1]
      by_cases q2 : tl L (p + 20) (pl + far L (p + 24)) ≤ ds
      · rw [if_pos q2]
        by_cases q3 : tl L (p + 42) (pl + far L (p + 24) + far L (p + 20)) ≤ ds
        · have e : numS L ds p pl len = some (tl L (p + 24) pl, tl L (p + 20) (pl + far L (p + 24)), tl L (p + 42) (pl + far L (p + 24) + far L (p + 20))) := by unfold numS; rw [if_pos ⟨hlk, q1, q2, q3⟩]
          rw [if_pos q3, we_p _ _ _ _ hk (by decide), Option.bind_some, we_p _ _ _ _ hk (by decide), Option.bind_some, we_p _ _ _ _ hk (by decide), Option.bind_some]
          refine ⟨_, by rw [e]; rfl, ?_, ?_, ?_⟩
          · intro o ho hk2
            rw [pj_row hk2, pj_row hk2, pj_row hk2, o3 o ho]
          · intro j j4 j5 j6
            rw [pj_k j6, pj_k j4, pj_k j5, g3]
          · intro sz pk of_ q
            rw [e] at q
            cases q
            refine ⟨?_, ?_, ?_⟩
            · rw [pj_k (by decide), pj_k (by decide), pj_s, ln_i32]
            · rw [pj_k (by decide), pj_s, ln_i32]
            · rw [pj_s, ln_i32]
        · rw [if_neg q3]
          exact no _ rfl (by unfold numS; rw [if_neg (fun q => q3 q.2.2.2)])
      · rw [if_neg q2]
        exact no _ rfl (by unfold numS; rw [if_neg (fun q => q2 q.2.2.1)])
    · rw [if_neg q1]
      exact no _ rfl (by unfold numS; rw [if_neg (fun q => q1 q.2.1)])
  · have hne : ¬ (if nvL L (p + 42) 4 = 4294967295 ∧ ¬ (if nvL L (p + 20) 4 = 4294967295 ∧ (if nvL L (p + 24) 4 = 4294967295 ∧ pl + 8 ≤ pl + len then pl + 8 else pl) + 8 ≤ pl + len then (if nvL L (p + 24) 4 = 4294967295 ∧ pl + 8 ≤ pl + len then pl + 8 else pl) + 8 else (if nvL L (p + 24) 4 = 4294967295 ∧ pl + 8 ≤ pl + len then pl + 8 else pl)) + 8 ≤ pl + len then (1 : Int32) else (if nvL L (p + 20) 4 = 4294967295 ∧ ¬ (if nvL L (p + 24) 4 = 4294967295 ∧ pl + 8 ≤ pl + len then pl + 8 else pl) + 8 ≤ pl + len then (1 : Int32) else (if nvL L (p + 24) 4 = 4294967295 ∧ ¬ pl + 8 ≤ pl + len then (1 : Int32) else 0))) = 0 := by
      intro z
      apply hlk
      apply tA.mp
      refine ⟨?_, ?_, ?_⟩
      · intro q
        by_cases r3 : nvL L (p + 42) 4 = 4294967295 ∧ ¬ (if nvL L (p + 20) 4 = 4294967295 ∧ (if nvL L (p + 24) 4 = 4294967295 ∧ pl + 8 ≤ pl + len then pl + 8 else pl) + 8 ≤ pl + len then (if nvL L (p + 24) 4 = 4294967295 ∧ pl + 8 ≤ pl + len then pl + 8 else pl) + 8 else (if nvL L (p + 24) 4 = 4294967295 ∧ pl + 8 ≤ pl + len then pl + 8 else pl)) + 8 ≤ pl + len
        · rw [if_pos r3] at z; exact absurd z (by decide)
        · rw [if_neg r3] at z
          by_cases r2 : nvL L (p + 20) 4 = 4294967295 ∧ ¬ (if nvL L (p + 24) 4 = 4294967295 ∧ pl + 8 ≤ pl + len then pl + 8 else pl) + 8 ≤ pl + len
          · rw [if_pos r2] at z; exact absurd z (by decide)
          · rw [if_neg r2, if_pos q] at z; exact absurd z (by decide)
      · intro q
        by_cases r3 : nvL L (p + 42) 4 = 4294967295 ∧ ¬ (if nvL L (p + 20) 4 = 4294967295 ∧ (if nvL L (p + 24) 4 = 4294967295 ∧ pl + 8 ≤ pl + len then pl + 8 else pl) + 8 ≤ pl + len then (if nvL L (p + 24) 4 = 4294967295 ∧ pl + 8 ≤ pl + len then pl + 8 else pl) + 8 else (if nvL L (p + 24) 4 = 4294967295 ∧ pl + 8 ≤ pl + len then pl + 8 else pl)) + 8 ≤ pl + len
        · rw [if_pos r3] at z; exact absurd z (by decide)
        · rw [if_neg r3, if_pos q] at z; exact absurd z (by decide)
      · intro q
        rw [if_pos q] at z
        exact absurd z (by decide)
    rw [if_neg hne]
    exact no _ rfl (by unfold numS; rw [if_neg (fun q => hlk q.1)])
end Cp
