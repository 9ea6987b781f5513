/-! Faults of an entry, by the reference. -/
section Mf
variable {J : yJ} {A : yA} {s : Nat} {Q : zW} {L : List Int32} {F k ds : Nat} {es : List Ent}
theorem md_153 {E : Ent} (hk : k < 8) (g3 : (A 51)[k]? = some (nI (E 3))) (g4 : (A 52)[k]? = some (nI (E 4))) (g5 : (A 53)[k]? = some (nI (E 5))) (h3 : E 3 < 2 ^ 32) (h4 : E 4 < 2 ^ 31) (h5 : E 5 < 2 ^ 31) {cr : Nat} (zc : cr < 2 ^ 32) {vp vs : Int64} {P : Prop} [Decidable P] (hP : P ↔ vp = lN_ (E 4) ∧ vs = lN_ (E 5)) : b_Model_areTold_153 F 39 (nI k) (lN_ cr) vp vs (YW J A s Q) = some (if cr = E 3 ∧ P then 1 else 0, YW J A s Q) := by
  have a3 : aget (YW J A s Q) 51 (nI k) = some (nI (E 3)) := ag_ (by decide) (by omega) g3
  have a4 : aget (YW J A s Q) 52 (nI k) = some (nI (E 4)) := ag_ (by decide) (by omega) g4
  have a5 : aget (YW J A s Q) 53 (nI k) = some (nI (E 5)) := ag_ (by decide) (by omega) g5
  unfold b_Model_areTold_153 b_Model_areTold_195
  rw [show getR (YW J A s Q) 39 9 23 = some 51 from rfl, Option.bind_some, a3, Option.bind_some, show getR (YW J A s Q) 39 9 24 = some 52 from rfl, Option.bind_some, a4, Option.bind_some, show getR (YW J A s Q) 39 9 25 = some 53 from rfl, Option.bind_some, a5, Option.bind_some, ln_i32, ex_bv h4, ex_bv h5]
  by_cases c1 : cr = E 3
  · rw [if_pos (show nI cr = nI (E 3) by rw [c1])]
    by_cases c2 : vp = lN_ (E 4)
    · rw [if_pos (lg_z.mpr c2)]
      by_cases c3 : vs = lN_ (E 5)
      · rw [if_pos (lg_z.mpr c3), if_pos ⟨c1, hP.mpr ⟨c2, c3⟩⟩]
      · rw [if_neg (fun q => c3 (lg_z.mp q)), if_neg (fun q => c3 (hP.mp q.2).2)]
    · rw [if_neg (fun q => c2 (lg_z.mp q)), if_neg (fun q => c2 (hP.mp q.2).1)]
  · rw [if_neg (show ¬ nI cr = nI (E 3) from fun q => c1 ((nI_eq32 zc h3).mp q)), if_neg (fun q => c1 q.1)]
/-- areTold -/
theorem m_tells {E : Ent} (hF : 20000 ≤ F) (h : GF J A L) (hk : k < 8) (hE : ∀ j, j < 9 → (A (48 + j))[k]? = some (nI (E j))) (hok : okE ds E) (hds : ds ≤ L.length) {x0 c : Nat} (hp : E 6 + 30 ≤ ds) (hc : c ≤ ds) (hx : x0 < 2 ^ 20) (hw : recW L c c x0 = true) (g57 : (A 57)[k]? = some (nI c)) : f_Model_areTold F 39 (nI k) (nI (E 6)) (nI x0) (YW J A s Q) = some (if tolS L x0 c E then 1 else 0, YW J A s Q) := by
  obtain ⟨k0, k0', k1, k2, k3, k4, k5, k6⟩ := hok
  have hb := h.2.2.2.2
  have hl := h.2.2.2.1
  have z4 : ∀ q, nvL L q 4 < 2 ^ 32 := fun q => nvL_32 hb
  have z8 : ∀ q, nvL L q 8 < 2 ^ 64 := fun q => nvL_64 hb (by decide)
  have n4 : ∀ q, q + 4 ≤ L.length → f_Model_number F 39 (nI q) 4 (YW J A s Q) = some (lN_ (nvL L q 4), YW J A s Q) := fun q hq => M_number (n := 4) hF h hq (by decide)
  have n8 : ∀ q, q + 8 ≤ L.length → f_Model_number F 39 (nI q) 8 (YW J A s Q) = some (lN_ (nvL L q 8), YW J A s Q) := fun q hq => M_number (n := 8) hF h hq (by decide)
  have a1 : aget (YW J A s Q) 49 (nI k) = some (nI (E 1)) := ag_ (by decide) (by omega) (hE 1 (by decide))
  have a57 : aget (YW J A s Q) 57 (nI k) = some (nI c) := ag_ (by decide) (by omega) g57
  unfold f_Model_areTold b_Model_areTold_0 b_Model_areTold_69 tolS
  rw [wo_M, Option.bind_some, show nI (E 6) + (14 : Int32) = nI (E 6 + 14) from nI_add _ 14, n4 _ (by omega), Option.bind_some]
  simp only []
  rw [wo_M, Option.bind_some, show nI (E 6) + (18 : Int32) = nI (E 6 + 18) from nI_add _ 18, n4 _ (by omega), Option.bind_some]
  simp only []
  rw [wo_M, Option.bind_some, show nI (E 6) + (22 : Int32) = nI (E 6 + 22) from nI_add _ 22, n4 _ (by omega), Option.bind_some]
  simp only []
  rw [show getR (YW J A s Q) 39 9 21 = some 49 from rfl, Option.bind_some, a1, Option.bind_some, wo_M, Option.bind_some, m_wide hF h (by omega), Option.bind_some]
  simp only []
  rw [wo_M, Option.bind_some, m_wide hF h (by omega), Option.bind_some]
  simp only []
  have zc := z4 (E 6 + 14)
  have zp := z4 (E 6 + 18)
  have zs := z4 (E 6 + 22)
  generalize nvL L (E 6 + 14) 4 = cr at zc
  generalize nvL L (E 6 + 18) 4 = pk at zp
  generalize nvL L (E 6 + 22) 4 = sz at zs
  by_cases e8 : E 1 = 8
  · rw [if_pos (show nI (E 1) = (8 : Int32) by rw [e8]; rfl)]
    simp only [if_pos e8]
    rw [show (0 : Int64) = lN_ 0 from rfl]
    by_cases c1 : cr = 0
    · rw [if_pos ((lg_ln (by omega) (by decide)).mpr c1)]
      by_cases c2 : pk = 0
      · rw [if_pos ((lg_ln (by omega) (by decide)).mpr c2)]
        by_cases c3 : sz = 0
        · rw [if_pos ((lg_ln (by omega) (by decide)).mpr c3), if_pos ⟨c1, c2, c3⟩]
        · rw [if_neg (fun q => c3 ((lg_ln (by omega) (by decide)).mp q)), if_neg (fun q => c3 q.2.2)]
      · rw [if_neg (fun q => c2 ((lg_ln (by omega) (by decide)).mp q)), if_neg (fun q => c2 q.2.1)]
    · rw [if_neg (fun q => c1 ((lg_ln (by omega) (by decide)).mp q)), if_neg (fun q => c1 q.1)]
  · rw [if_neg (show ¬ nI (E 1) = (8 : Int32) from fun q => e8 ((nI_eq (b := 8) (by omega) (by decide)).mp q))]
    simp only [if_neg e8]
    have direct : ¬ (pk = 4294967295 ∧ sz = 4294967295) → b_Model_areTold_153 F 39 (nI k) (lN_ cr) (lN_ pk) (lN_ sz) (YW J A s Q) = some (if cr = E 3 ∧ (if pk = 4294967295 ∧ sz = 4294967295 then 16 ≤ rL (recF L c c x0) ∧ nvL L (rP (recF L c c x0) c) 8 = E 5 ∧ nvL L (rP (recF L c c x0) c + 8) 8 = E 4 else pk = E 4 ∧ sz = E 5) then 1 else 0, YW J A s Q) := by
      intro hn
      refine md_153 hk (hE 3 (by decide)) (hE 4 (by decide)) (hE 5 (by decide)) k3 (by omega) (by omega) zc ?_
      rw [if_neg hn, ln_inj (by omega) (by omega), ln_inj (by omega) (by omega)]
    by_cases wp : pk = 4294967295
    · have q1 : (if pk = 4294967295 then (1 : Int32) else 0) = 1 := if_pos wp
      rw [q1, if_neg (show ¬ (1 : Int32) = 0 by decide)]
      by_cases w : sz = 4294967295
      · have q2 : (if sz = 4294967295 then (1 : Int32) else 0) = 1 := if_pos w
        rw [q2, if_neg (show ¬ (1 : Int32) = 0 by decide), show getR (YW J A s Q) 39 9 29 = some 57 from rfl, Option.bind_some, a57, Option.bind_some, wo_M, Option.bind_some, show f_Model_recordIn F 39 (nI x0) (nI c) 16 (YW J A s Q) = _ from m_rec (least := 16) hF h (by omega) (by decide) hx hw, Option.bind_some]
        simp only []
        have hrl := rPL_le hw
        have hpos : (pk = 4294967295 ∧ sz = 4294967295) := ⟨wp, w⟩
        simp only [if_pos hpos]
        have notP : ∀ (P : Prop) [Decidable P], ¬ P → b_Model_areTold_153 F 39 (nI k) (lN_ cr) (-1) (-1) (YW J A s Q) = some (if cr = E 3 ∧ P then 1 else 0, YW J A s Q) := by
          intro P _ hP
          refine md_153 hk (hE 3 (by decide)) (hE 4 (by decide)) (hE 5 (by decide)) k3 (by omega) (by omega) zc ?_
          constructor
          · exact fun q => absurd q hP
          · intro q
            have := congrArg Int64.toInt q.1
            rw [ln_toInt (by omega)] at this
            have h1 : (-1 : Int64).toInt = -1 := by decide
            omega
        unfold b_Model_areTold_127 b_Model_areTold_151
        cases hr : recF L c c x0 with
        | none =>
          rw [hr] at hrl
          rw [show rcI none 16 = -1 from rfl, if_neg (show ¬ (0 : Int32) ≤ -1 by decide), if_neg (show ¬ (0 : Int32) ≤ -1 by decide)]
          exact notP _ (by rintro ⟨q, -⟩; exact absurd (show 16 ≤ 0 from q) (by decide))
        | some x =>
          obtain ⟨pl, len⟩ := x
          rw [hr] at hrl
          have hle := recF_le hw hr
          have hrl' : pl + len ≤ c := hrl
          by_cases l16 : 16 ≤ len
          · rw [show rcI (some (pl, len)) 16 = nI pl from if_neg (by omega), if_pos (nI_pos' (by omega)), wo_M, Option.bind_some, n8 _ (by omega), Option.bind_some]
            simp only []
            rw [if_pos (nI_pos' (by omega)), wo_M, Option.bind_some, show nI pl + (8 : Int32) = nI (pl + 8) from nI_add _ 8, n8 _ (by omega), Option.bind_some]
            simp only []
            refine md_153 hk (hE 3 (by decide)) (hE 4 (by decide)) (hE 5 (by decide)) k3 (by omega) (by omega) zc ?_
            rw [ln_inj (z8 _) (by omega), ln_inj (z8 _) (by omega)]
            constructor
            · rintro ⟨-, q1, q2⟩; exact ⟨q2, q1⟩
            · rintro ⟨q1, q2⟩; exact ⟨l16, q2, q1⟩
          · rw [show rcI (some (pl, len)) 16 = -1 from if_pos (by omega), if_neg (show ¬ (0 : Int32) ≤ -1 by decide), if_neg (show ¬ (0 : Int32) ≤ -1 by decide)]
            exact notP _ (by rintro ⟨q, -⟩; exact l16 q)
      · have q2 : (if sz = 4294967295 then (1 : Int32) else 0) = 0 := if_neg w
        rw [q2, if_pos (show (0 : Int32) = 0 from rfl)]
        exact direct (fun q => w q.2)
    · have q1 : (if pk = 4294967295 then (1 : Int32) else 0) = 0 := if_neg wp
      rw [q1, if_pos (show (0 : Int32) = 0 from rfl)]
      exact direct (fun q => wp q.1)
/-- what locating entry k leaves as it was -/
def lfr (A A' : yA) (k : Nat) : Prop := Sh A' ∧ (∀ j, j ≠ 57 → j ≠ 58 → A' j = A j) ∧ ∀ i, i ≠ k → (A' 57)[i]? = (A 57)[i]? ∧ (A' 58)[i]? = (A 58)[i]?
/-- locate -/
theorem m_locate {E : Ent} (hF : 20000 ≤ F) (h : GF J A L) (hk : k < 8) (hE : ∀ j, j < 9 → (A (48 + j))[k]? = some (nI (E j))) (hok : okE ds E) (h18 : J 39 18 = nI ds) (hds : ds ≤ L.length) : ∃ A', f_Model_locate F 39 (nI k) (YW J A s Q) = some (if (locS L ds E).isSome then 1 else 0, YW J A' s Q) ∧ lfr A A' k ∧ ∀ c, locS L ds E = some c → (A' 57)[k]? = some (nI c) ∧ (A' 58)[k]? = some (nI (endE E c)) := by
  have hok0 := hok
  obtain ⟨k0, k0', k1, k2, k3, k4, k5, k6⟩ := hok
  have hb := h.2.2.2.2
  have hl := h.2.2.2.1
  have hS := h.1
  have z4 : ∀ q, nvL L q 4 < 2 ^ 32 := fun q => nvL_32 hb
  have z2 : ∀ q, nvL L q 2 < 2 ^ 16 := fun q => nvL_16 hb
  have no : ∀ (X : Option (Int32 × zW)) (A0 : yA), X = some (0, YW J A0 s Q) → lfr A A0 k → ¬ locC L ds E → ∃ A', X = some (if (locS L ds E).isSome then 1 else 0, YW J A' s Q) ∧ lfr A A' k ∧ ∀ c, locS L ds E = some c → (A' 57)[k]? = some (nI c) ∧ (A' 58)[k]? = some (nI (endE E c)) := by
    intro X A0 hX hA hn
    have e : locS L ds E = none := by unfold locS; rw [if_neg hn]
    rw [e]
    exact ⟨A0, hX, hA, fun c q => by cases q⟩
  have lf0 : lfr A A k := ⟨hS, fun _ _ _ => rfl, fun _ _ => ⟨rfl, rfl⟩⟩
  have a6 : aget (YW J A s Q) 54 (nI k) = some (nI (E 6)) := ag_ (by decide) (by omega) (hE 6 (by decide))
  unfold f_Model_locate b_Model_locate_0 b_Model_locate_31 b_Model_locate_95 b_Model_locate_192
  rw [show getR (YW J A s Q) 39 9 26 = some 54 from rfl, Option.bind_some, a6, Option.bind_some, show getI (YW J A s Q) 39 9 18 = some (J 39 18) from rfl, Option.bind_some, h18, show nI (E 6) + (30 : Int32) = nI (E 6 + 30) from nI_add _ 30]
  by_cases c1 : E 6 + 30 ≤ ds
  · rw [if_neg (nI_nlt c1 (by omega)), wo_M, Option.bind_some, show f_Model_number F 39 (nI (E 6)) 4 (YW J A s Q) = _ from M_number (n := 4) hF h (by omega) (by decide), Option.bind_some]
    simp only []
    rw [show (67324752 : Int64) = lN_ 67324752 from rfl]
    by_cases c2 : nvL L (E 6) 4 = 67324752
    · rw [if_pos ((lg_ln (by have := z4 (E 6); omega) (by decide)).mpr c2), wo_M, Option.bind_some, show nI (E 6) + (26 : Int32) = nI (E 6 + 26) from nI_add _ 26, M_two h (by omega), Option.bind_some]
      simp only []
      rw [show getR (YW J A s Q) 39 9 29 = some 57 from rfl, Option.bind_some, wo_M, Option.bind_some, show nI (E 6) + (28 : Int32) = nI (E 6 + 28) from nI_add _ 28, M_two h (by omega), Option.bind_some]
      simp only []
      have h57 : (A 57).length = 8 := hS 57
      rw [nI_add, nI_add, show E 6 + 30 + nvL L (E 6 + 26) 2 = x0S L E from rfl, show x0S L E + nvL L (E 6 + 28) 2 = cS L E from rfl, as_ (by decide) (by omega) (by omega), Option.bind_some]
      have zx : x0S L E < 2 ^ 18 := by have := z2 (E 6 + 26); unfold x0S; omega
      have zc : cS L E < 2 ^ 19 := by have := z2 (E 6 + 28); unfold cS; omega
      have hxc : x0S L E ≤ cS L E := Nat.le_add_right _ _
      have S1 : Sh (ud A 57 ((A 57).set k (nI (cS L E)))) := hS.ud List.length_set
      have lf1 : lfr A (ud A 57 ((A 57).set k (nI (cS L E)))) k := ⟨S1, fun j a b => ud_n a, fun i hi => ⟨by rw [ud_s, List.getElem?_set_ne (fun q => hi q.symm)], by rw [ud_n (by decide)]⟩⟩
      have hG1 : GF J (ud A 57 ((A 57).set k (nI (cS L E)))) L := h.eqA S1 (ud_n (by decide))
      have g57 : (ud A 57 ((A 57).set k (nI (cS L E))) 57)[k]? = some (nI (cS L E)) := by rw [ud_s, List.getElem?_set_self (by omega)]
      have a57 : aget (YW J (ud A 57 ((A 57).set k (nI (cS L E)))) s Q) 57 (nI k) = some (nI (cS L E)) := ag_ (by decide) (by omega) g57
      have hE1 : ∀ j, j < 9 → (ud A 57 ((A 57).set k (nI (cS L E))) (48 + j))[k]? = some (nI (E j)) := fun j hj => by rw [ud_n (by omega)]; exact hE j hj
      rw [show getR (YW J (ud A 57 ((A 57).set k (nI (cS L E)))) s Q) 39 9 29 = some 57 from rfl, Option.bind_some, a57, Option.bind_some, show getI (YW J (ud A 57 ((A 57).set k (nI (cS L E)))) s Q) 39 9 18 = some (J 39 18) from rfl, Option.bind_some, h18]
      generalize ud A 57 ((A 57).set k (nI (cS L E))) = A1 at S1 lf1 hG1 g57 a57 hE1 ⊢
      by_cases c3 : cS L E ≤ ds
      · rw [if_neg (nI_nlt c3 (by omega)), Option.bind_some, a57, Option.bind_some, wo_M, Option.bind_some, m_are hF hG1 (by omega) (by omega), Option.bind_some]
        simp only []
        cases hw : recW L (cS L E) (cS L E) (x0S L E) with
        | false =>
          rw [if_pos (show bI false = 0 from rfl)]
          refine no _ A1 rfl lf1 ?_
          rintro ⟨-, -, -, -, -, -, q, -⟩
          rw [hw] at q
          cases q
        | true =>
          have b4 : aget (YW J A1 s Q) 52 (nI k) = some (nI (E 4)) := ag_ (by decide) (by omega) (hE1 4 (by decide))
          have b1 : aget (YW J A1 s Q) 49 (nI k) = some (nI (E 1)) := ag_ (by decide) (by omega) (hE1 1 (by decide))
          have h58 : (A1 58).length = 8 := S1 58
          rw [if_neg (show ¬ bI true = 0 by decide), show getR (YW J A1 s Q) 39 9 30 = some 58 from rfl, Option.bind_some, show getR (YW J A1 s Q) 39 9 29 = some 57 from rfl, Option.bind_some, a57, Option.bind_some, show getR (YW J A1 s Q) 39 9 24 = some 52 from rfl, Option.bind_some, b4, Option.bind_some, show getR (YW J A1 s Q) 39 9 21 = some 49 from rfl, Option.bind_some, b1, Option.bind_some, nI_add, show (2 : Int32) = nI 2 from rfl, pk_mul, nI_add, show cS L E + E 4 + 2 * E 1 = endE E (cS L E) from rfl, as_ (by decide) (by omega) (by omega), Option.bind_some]
          have S2 : Sh (ud A1 58 ((A1 58).set k (nI (endE E (cS L E))))) := S1.ud List.length_set
          have lf2 : lfr A (ud A1 58 ((A1 58).set k (nI (endE E (cS L E))))) k := ⟨S2, fun j a b => by rw [ud_n b]; exact lf1.2.1 j a b, fun i hi => ⟨by rw [ud_n (by decide)]; exact (lf1.2.2 i hi).1, by rw [ud_s, List.getElem?_set_ne (fun q => hi q.symm)]; exact (lf1.2.2 i hi).2⟩⟩
          have hG2 : GF J (ud A1 58 ((A1 58).set k (nI (endE E (cS L E))))) L := hG1.eqA S2 (ud_n (by decide))
          have g57' : (ud A1 58 ((A1 58).set k (nI (endE E (cS L E)))) 57)[k]? = some (nI (cS L E)) := by rw [ud_n (by decide)]; exact g57
          have g58' : (ud A1 58 ((A1 58).set k (nI (endE E (cS L E)))) 58)[k]? = some (nI (endE E (cS L E))) := by rw [ud_s, List.getElem?_set_self (by omega)]
          have hE2 : ∀ j, j < 9 → (ud A1 58 ((A1 58).set k (nI (endE E (cS L E)))) (48 + j))[k]? = some (nI (E j)) := fun j hj => by rw [ud_n (by omega)]; exact hE1 j hj
          generalize ud A1 58 ((A1 58).set k (nI (endE E (cS L E)))) = A2 at S2 lf2 hG2 g57' g58' hE2 ⊢
          have d1 : aget (YW J A2 s Q) 49 (nI k) = some (nI (E 1)) := ag_ (by decide) (by omega) (hE2 1 (by decide))
          have d2 : aget (YW J A2 s Q) 50 (nI k) = some (nI (E 2)) := ag_ (by decide) (by omega) (hE2 2 (by decide))
          have d0 : aget (YW J A2 s Q) 48 (nI k) = some (nI (E 0)) := ag_ (by decide) (by omega) (hE2 0 (by decide))
          rw [wo_M, Option.bind_some, show nI (E 6) + (6 : Int32) = nI (E 6 + 6) from nI_add _ 6, M_two hG2 (by omega), Option.bind_some]
          simp only []
          rw [show getR (YW J A2 s Q) 39 9 21 = some 49 from rfl, Option.bind_some, d1, Option.bind_some]
          by_cases c4 : nvL L (E 6 + 6) 2 = E 1
          · rw [if_pos (show nI (nvL L (E 6 + 6) 2) = nI (E 1) by rw [c4]), wo_M, Option.bind_some, show nI (E 6) + (8 : Int32) = nI (E 6 + 8) from nI_add _ 8, M_two hG2 (by omega), Option.bind_some]
            simp only []
            rw [show getR (YW J A2 s Q) 39 9 22 = some 50 from rfl, Option.bind_some, d2, Option.bind_some]
            by_cases c5 : nvL L (E 6 + 8) 2 = E 2
            · rw [if_pos (show nI (nvL L (E 6 + 8) 2) = nI (E 2) by rw [c5]), wo_M, Option.bind_some, m_name hF hG2 (by have : E 6 + 30 + nvL L (E 6 + 26) 2 = x0S L E := rfl; omega), Option.bind_some]
              simp only []
              rw [show getR (YW J A2 s Q) 39 9 20 = some 48 from rfl, Option.bind_some, d0, Option.bind_some]
              by_cases c6 : nameS L (E 6 + 30) (nvL L (E 6 + 26) 2) = some (E 0)
              · rw [if_pos (show nI (nm0 (nameS L (E 6 + 30) (nvL L (E 6 + 26) 2))) = nI (E 0) by rw [c6]; rfl), wo_M, Option.bind_some, m_tells hF hG2 hk hE2 hok0 hds c1 c3 (by omega) hw g57', Option.bind_some]
                simp only []
                by_cases c7 : tolS L (x0S L E) (cS L E) E
                · have q7 : (if tolS L (x0S L E) (cS L E) E then (1 : Int32) else 0) = 1 := if_pos c7
                  have el : locS L ds E = some (cS L E) := by unfold locS; rw [if_pos ⟨c1, c2, c3, c4, c5, c6, hw, c7⟩]
                  rw [q7, if_neg (show ¬ (1 : Int32) = 0 by decide), el]
                  exact ⟨A2, rfl, lf2, fun c q => by cases q; exact ⟨g57', g58'⟩⟩
                · have q7 : (if tolS L (x0S L E) (cS L E) E then (1 : Int32) else 0) = 0 := if_neg c7
                  rw [q7, if_pos (show (0 : Int32) = 0 from rfl)]
                  exact no _ A2 rfl lf2 (fun q => c7 q.2.2.2.2.2.2.2)
              · rw [if_neg]
                · exact no _ A2 rfl lf2 (fun q => c6 q.2.2.2.2.2.1)
                · intro q
                  cases hn : nameS L (E 6 + 30) (nvL L (E 6 + 26) 2) with
                  | none =>
                    rw [hn] at q
                    have := (nI_eq (a := 0) (by omega) (by omega)).mp q
                    omega
                  | some v =>
                    have hv := nameS_lt hn
                    rw [hn] at q
                    have := (nI_eq (by omega) (by omega)).mp (show nI v = nI (E 0) from q)
                    rw [this] at hn
                    exact c6 hn
            · rw [if_neg (show ¬ nI (nvL L (E 6 + 8) 2) = nI (E 2) from fun q => c5 ((nI_eq (by have := z2 (E 6 + 8); omega) (by omega)).mp q))]
              exact no _ A2 rfl lf2 (fun q => c5 q.2.2.2.2.1)
          · rw [if_neg (show ¬ nI (nvL L (E 6 + 6) 2) = nI (E 1) from fun q => c4 ((nI_eq (by have := z2 (E 6 + 6); omega) (by omega)).mp q))]
            exact no _ A2 rfl lf2 (fun q => c4 q.2.2.2.1)
      · rw [if_pos (nI_lt (by omega) (by omega))]
        exact no _ A1 rfl lf1 (fun q => c3 q.2.2.1)
    · rw [if_neg (fun q => c2 ((lg_ln (by have := z4 (E 6); omega) (by decide)).mp q))]
      exact no _ A rfl lf0 (fun q => c2 q.2.1)
  · rw [if_pos (nI_lt (by omega) (by omega))]
    exact no _ A rfl lf0 (fun q => c1 q.1)
end Mf
