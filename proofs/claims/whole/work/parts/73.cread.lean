/-! The class reads a part of the directory. -/
section Cq
variable {J : yJ} {A : yA} {s : Nat} {Q : zW} {L : List Int32} {F k p ds de : Nat}
theorem isMe {m : Nat} (hm : m < 2 ^ 31) (w : zW) : f_Zip_isMethod F (nI m) w = some (if m = 0 ∨ m = 8 then 1 else 0, w) := by
  unfold f_Zip_isMethod b_Zip_isMethod_0 b_Zip_isMethod_10
  by_cases h0 : m = 0
  · rw [if_pos (show nI m = 0 by rw [h0]; rfl), if_pos (Or.inl h0)]
  · rw [if_neg (nI_ne0 (by omega) hm)]
    by_cases h8 : m = 8
    · rw [if_pos (show nI m = 8 by rw [h8]; rfl), if_pos (Or.inr h8)]
    · rw [if_neg (show ¬ nI m = 8 from fun q => h8 ((nI_eq (b := 8) hm (by decide)).mp q)), if_neg (by omega)]
theorem nameS_lt {p n v : Nat} (h : nameS L p n = some v) : 0 < v ∧ v < 2 ^ 24 := by
  unfold nameS at h
  split at h
  · rename_i hc
    obtain ⟨a, b⟩ := nmS_pos n p 0 v h (Or.inr (by omega))
    refine ⟨a, Nat.lt_of_lt_of_le b ?_⟩
    rw [Nat.zero_add, Nat.mul_one]
    exact Nat.le_trans (Nat.pow_le_pow_right (by decide) hc.2) (by decide)
  · cases h
theorem c_readPart (hF : 20000 ≤ F) (h : FI J A L) (hk : k < 8) (hds : J 24 4 = nI ds) (hde : J 24 5 = nI de) (h1 : ds ≤ de) (h2 : de ≤ L.length) (hp : p ≤ de) : ∃ J', f_Archive_readPart F 24 (27 + k) (nI p) (YW J A s Q) = some (if (rpS L ds de p).isSome then 1 else 0, YW J' A s Q) ∧ (∀ o, o ≠ 25 → o ≠ 27 + k → J' o = J o) ∧ ∀ E, rpS L ds de p = some E → ∀ j, j < 9 → J' (27 + k) j = nI (E j) := by
  have hb := h.2.2.2.2
  have hl := h.2.2.2.1
  have hz : ∀ (p n : Nat), n ≤ 8 → nvL L p n < 2 ^ 64 := fun p n hn => nvL_64 hb hn
  have h16 : ∀ p : Nat, nvL L p 2 < 2 ^ 16 := fun p => nvL_16 hb
  have no : ∀ (X : Option (Int32 × zW)) (J0 : yJ), X = some (0, YW J0 A s Q) → (∀ o, o ≠ 25 → o ≠ 27 + k → J0 o = J o) → rpS L ds de p = none → ∃ J', X = some (if (rpS L ds de p).isSome then 1 else 0, YW J' A s Q) ∧ (∀ o, o ≠ 25 → o ≠ 27 + k → J' o = J o) ∧ ∀ E, rpS L ds de p = some E → ∀ j, j < 9 → J' (27 + k) j = nI (E j) := by
    intro X J0 hX ho e
    refine ⟨J0, by rw [hX, e]; rfl, ho, ?_⟩
    intro E q
    rw [e] at q
    cases q
  unfold f_Archive_readPart b_Archive_readPart_0 b_Archive_readPart_27 b_Archive_readPart_203
  simp only [wg_A, Option.bind_some, hde]
  by_cases c1 : p + 46 ≤ de
  · rw [if_neg (show ¬ nI de - nI p < 46 from fun z => absurd ((hr_sub (a := de) (b := p) (k := 46) (by omega) (by omega) (by decide)).mp z) (by omega))]
    rw [R_o hr3, Option.bind_some, show (4 : Int32) = nI 4 from rfl, W_number hF h (by omega) (by decide), Option.bind_some]
    simp only []
    rw [show (33639248 : Int64) = lN_ 33639248 from rfl]
    by_cases c2 : nvL L p 4 = 33639248
    · rw [if_pos ((lg_ln (hz _ _ (by decide)) (by decide)).mpr c2)]
      simp only [wg_A, Option.bind_some, R_o hr3]
      rw [show (28 : Int32) = nI 28 from rfl, nI_add, show (2 : Int32) = nI 2 from rfl, W_number hF h (by omega) (by decide), Option.bind_some]
      simp only [wg_A, Option.bind_some, R_o hr3]
      rw [show (30 : Int32) = nI 30 from rfl, nI_add, W_number hF h (by omega) (by decide), Option.bind_some]
      rw [we_p _ _ _ _ hk (by decide), Option.bind_some]
      have f1 : FI (pj J (27 + k) 7 (nI p)) A L := h.pj (Or.inl (by omega))
      simp only [wg_A, Option.bind_some, R_o hr3]
      rw [show (32 : Int32) = nI 32 from rfl, nI_add, W_number hF f1 (by omega) (by decide), Option.bind_some]
      rw [we_p _ _ _ _ hk (by decide), Option.bind_some, we_g _ _ _ _ hk (by decide), Option.bind_some]
      simp only [wg_A, Option.bind_some, ln_i32]
      rw [pj_s, show (46 : Int32) = nI 46 from rfl, nI_add, nI_add, nI_add, nI_add, pj_o (show 24 ≠ 27 + k by omega), pj_o (show 24 ≠ 27 + k by omega), hde]
      have z28 := h16 (p + 28)
      have z30 := h16 (p + 30)
      have z32 := h16 (p + 32)
      generalize enl : nvL L (p + 28) 2 = nl at z28
      generalize exl : nvL L (p + 30) 2 = xl at z30
      generalize erl : nvL L (p + 32) 2 = rl at z32
      generalize eJ2 : pj (pj J (27 + k) 7 (nI p)) (27 + k) 8 (nI (p + 46 + nl + xl + rl)) = J2
      have f2 : FI J2 A L := by rw [← eJ2]; exact f1.pj (Or.inl (by omega))
      have o2 : ∀ o, o ≠ 27 + k → J2 o = J o := fun o ho => by rw [← eJ2, pj_row ho, pj_row ho]
      have j27 : J2 (27 + k) 7 = nI p := by rw [← eJ2, pj_k (by decide), pj_s]
      have j28 : J2 (27 + k) 8 = nI (p + 46 + nl + xl + rl) := by rw [← eJ2, pj_s]
      by_cases c3 : p + 46 + nl + xl + rl ≤ de
      · rw [if_pos (nI_le c3 (by omega))]
        simp only [wo_A, Option.bind_some]
        rw [c_name hF f2 (by omega), Option.bind_some, we_p _ _ _ _ hk (by decide), Option.bind_some]
        have f3 := f2.pj (o := 27 + k) (k := 0) (x := nmI (nameS L (p + 46) nl)) (Or.inl (by omega))
        simp only [wg_A, Option.bind_some, R_o hr3]
        rw [show (8 : Int32) = nI 8 from rfl, nI_add, W_number hF f3 (by omega) (by decide), Option.bind_some, we_p _ _ _ _ hk (by decide), Option.bind_some, ln_i32]
        have f4 := f3.pj (o := 27 + k) (k := 1) (x := nI (nvL L (p + 8) 2)) (Or.inl (by omega))
        simp only [wg_A, Option.bind_some, R_o hr3]
        rw [show (10 : Int32) = nI 10 from rfl, nI_add, W_number hF f4 (by omega) (by decide), Option.bind_some, we_p _ _ _ _ hk (by decide), Option.bind_some, ln_i32]
        have f5 := f4.pj (o := 27 + k) (k := 2) (x := nI (nvL L (p + 10) 2)) (Or.inl (by omega))
        simp only [wg_A, Option.bind_some, R_o hr3]
        rw [show (16 : Int32) = nI 16 from rfl, nI_add, W_number hF f5 (by omega) (by decide), Option.bind_some, we_p _ _ _ _ hk (by decide), Option.bind_some, ln_i32]
        have f6 := f5.pj (o := 27 + k) (k := 3) (x := nI (nvL L (p + 16) 4)) (Or.inl (by omega))
        have q0 : pj (pj (pj (pj J2 (27 + k) 0 (nmI (nameS L (p + 46) nl))) (27 + k) 1 (nI (nvL L (p + 8) 2))) (27 + k) 2 (nI (nvL L (p + 10) 2))) (27 + k) 3 (nI (nvL L (p + 16) 4)) (27 + k) 0 = nmI (nameS L (p + 46) nl) := by rw [pj_k (by decide), pj_k (by decide), pj_k (by decide), pj_s]
        have q1 : pj (pj (pj (pj J2 (27 + k) 0 (nmI (nameS L (p + 46) nl))) (27 + k) 1 (nI (nvL L (p + 8) 2))) (27 + k) 2 (nI (nvL L (p + 10) 2))) (27 + k) 3 (nI (nvL L (p + 16) 4)) (27 + k) 1 = nI (nvL L (p + 8) 2) := by rw [pj_k (by decide), pj_k (by decide), pj_s]
        have q2 : pj (pj (pj (pj J2 (27 + k) 0 (nmI (nameS L (p + 46) nl))) (27 + k) 1 (nI (nvL L (p + 8) 2))) (27 + k) 2 (nI (nvL L (p + 10) 2))) (27 + k) 3 (nI (nvL L (p + 16) 4)) (27 + k) 2 = nI (nvL L (p + 10) 2) := by rw [pj_k (by decide), pj_s]
        have q3 : pj (pj (pj (pj J2 (27 + k) 0 (nmI (nameS L (p + 46) nl))) (27 + k) 1 (nI (nvL L (p + 8) 2))) (27 + k) 2 (nI (nvL L (p + 10) 2))) (27 + k) 3 (nI (nvL L (p + 16) 4)) (27 + k) 3 = nI (nvL L (p + 16) 4) := pj_s
        have q7 : pj (pj (pj (pj J2 (27 + k) 0 (nmI (nameS L (p + 46) nl))) (27 + k) 1 (nI (nvL L (p + 8) 2))) (27 + k) 2 (nI (nvL L (p + 10) 2))) (27 + k) 3 (nI (nvL L (p + 16) 4)) (27 + k) 7 = nI p := by rw [pj_k (by decide), pj_k (by decide), pj_k (by decide), pj_k (by decide), j27]
        have q8 : pj (pj (pj (pj J2 (27 + k) 0 (nmI (nameS L (p + 46) nl))) (27 + k) 1 (nI (nvL L (p + 8) 2))) (27 + k) 2 (nI (nvL L (p + 10) 2))) (27 + k) 3 (nI (nvL L (p + 16) 4)) (27 + k) 8 = nI (p + 46 + nl + xl + rl) := by rw [pj_k (by decide), pj_k (by decide), pj_k (by decide), pj_k (by decide), j28]
        have qo : ∀ o, o ≠ 27 + k → pj (pj (pj (pj J2 (27 + k) 0 (nmI (nameS L (p + 46) nl))) (27 + k) 1 (nI (nvL L (p + 8) 2))) (27 + k) 2 (nI (nvL L (p + 10) 2))) (27 + k) 3 (nI (nvL L (p + 16) 4)) o = J o := fun o ho => by rw [pj_row ho, pj_row ho, pj_row ho, pj_row ho, o2 o ho]
        generalize pj (pj (pj (pj J2 (27 + k) 0 (nmI (nameS L (p + 46) nl))) (27 + k) 1 (nI (nvL L (p + 8) 2))) (27 + k) 2 (nI (nvL L (p + 10) 2))) (27 + k) 3 (nI (nvL L (p + 16) 4)) = J6 at f6 q0 q1 q2 q3 q7 q8 qo ⊢
        rw [we_g _ _ _ _ hk (by decide), Option.bind_some, q0]
        have zfl := h16 (p + 8)
        have zme := h16 (p + 10)
        have hno : ∀ (X : Option (Int32 × zW)), X = some (0, YW J6 A s Q) → rpS L ds de p = none → ∃ J', X = some (if (rpS L ds de p).isSome then 1 else 0, YW J' A s Q) ∧ (∀ o, o ≠ 25 → o ≠ 27 + k → J' o = J o) ∧ ∀ E, rpS L ds de p = some E → ∀ j, j < 9 → J' (27 + k) j = nI (E j) := fun X hX e => no X J6 hX (fun o _ ho => qo o ho) e
        cases hnm : nameS L (p + 46) nl with
        | none =>
          rw [if_pos (show nmI none = -1 from rfl)]
          refine hno _ rfl ?_
          unfold rpS
          rw [enl, exl, erl, hnm]
          split <;> rfl
        | some nm =>
          have hnl := nameS_lt hnm
          rw [if_neg (show ¬ nmI (some nm) = -1 from fun q => absurd (show nI nm < 0 by rw [show nI nm = -1 from q]; decide) (nI_pos (by omega)))]
          rw [we_g _ _ _ _ hk (by decide), Option.bind_some, q2, isMe (by omega), Option.bind_some]
          simp only []
          by_cases c4 : nvL L (p + 10) 2 = 0 ∨ nvL L (p + 10) 2 = 8
          · rw [if_pos c4, if_neg (show ¬ (1 : Int32) = 0 by decide), we_g _ _ _ _ hk (by decide), Option.bind_some, q1, Option.bind_some]
            have step : ∃ J', b_Archive_readPart_205 F 24 (27 + k) (nI (p + 46 + nl)) (nI (p + 46 + nl + xl)) (YW J6 A s Q) = some (if recW L (p + 46 + nl + xl) (p + 46 + nl + xl) (p + 46 + nl) = true ∧ (numS L ds p (rP (recF L (p + 46 + nl + xl) (p + 46 + nl + xl) (p + 46 + nl)) (p + 46 + nl + xl)) (rL (recF L (p + 46 + nl + xl) (p + 46 + nl + xl) (p + 46 + nl)))).isSome then 1 else 0, YW J' A s Q) ∧ (∀ o, o ≠ 25 → o ≠ 27 + k → J' o = J6 o) ∧ (recW L (p + 46 + nl + xl) (p + 46 + nl + xl) (p + 46 + nl) = true → (∀ j, j ≠ 4 → j ≠ 5 → j ≠ 6 → J' (27 + k) j = J6 (27 + k) j) ∧ ∀ sz pk of_, numS L ds p (rP (recF L (p + 46 + nl + xl) (p + 46 + nl + xl) (p + 46 + nl)) (p + 46 + nl + xl)) (rL (recF L (p + 46 + nl + xl) (p + 46 + nl + xl) (p + 46 + nl))) = some (sz, pk, of_) → J' (27 + k) 5 = nI sz ∧ J' (27 + k) 4 = nI pk ∧ J' (27 + k) 6 = nI of_) := by
              obtain ⟨J7, e7, o7, w1, w2, w3, w4⟩ := c_open (s := s) (Q := Q) hF f6 (show p + 46 + nl + xl ≤ L.length by omega) (show p + 46 + nl < 2 ^ 20 by omega)
              unfold b_Archive_readPart_205 b_Archive_readPart_238
              simp only [wg_A, wo_X, Option.bind_some]
              rw [e7, Option.bind_some]
              simp only [wg_A, wg_X, Option.bind_some]
              rw [w1]
              cases hw : recW L (p + 46 + nl + xl) (p + 46 + nl + xl) (p + 46 + nl) with
              | false =>
                rw [if_pos (show bI false = 0 from rfl)]
                refine ⟨J7, by simp, fun o ho _ => o7 o ho, fun q => by cases q⟩
              | true =>
                rw [if_neg (show ¬ bI true = 0 by decide)]
                simp only [wo_A, Option.bind_some]
                obtain ⟨J8, e8, o8, j8, n8⟩ := c_numbers (s := s) (Q := Q) (p := p) (ds := ds) hF (f6.eq (o7 3 (by decide))) hk (by rw [o7 _ (by omega)]; exact q7) w2 w3 w4 (by rw [o7 24 (by decide), qo 24 (by omega)]; exact hds) (by omega) (by omega) (Nat.le_trans (rPL_le hw) (by omega))
                rw [e8, Option.bind_some]
                refine ⟨J8, ?_, fun o ho ho2 => (o8 o ho ho2).trans (o7 o ho), fun _ => ⟨fun j a b c => by rw [j8 j a b c, o7 _ (by omega)], n8⟩⟩
                generalize (numS L ds p (rP (recF L (p + 46 + nl + xl) (p + 46 + nl + xl) (p + 46 + nl)) (p + 46 + nl + xl)) (rL (recF L (p + 46 + nl + xl) (p + 46 + nl + xl) (p + 46 + nl)))).isSome = b
                cases b <;> rfl
            obtain ⟨J', es, os, hs⟩ := step
            have fin : (nvL L (p + 8) 2 = 0 ∨ nvL L (p + 8) 2 = 8) → ∃ J', b_Archive_readPart_205 F 24 (27 + k) (nI (p + 46 + nl)) (nI (p + 46 + nl + xl)) (YW J6 A s Q) = some (if (rpS L ds de p).isSome then 1 else 0, YW J' A s Q) ∧ (∀ o, o ≠ 25 → o ≠ 27 + k → J' o = J o) ∧ ∀ E, rpS L ds de p = some E → ∀ j, j < 9 → J' (27 + k) j = nI (E j) := by
              intro c5
              have oJ : ∀ o, o ≠ 25 → o ≠ 27 + k → J' o = J o := fun o a b => (os o a b).trans (qo o b)
              cases hw : recW L (p + 46 + nl + xl) (p + 46 + nl + xl) (p + 46 + nl) with
              | false =>
                refine no _ J' ?_ oJ ?_
                · rw [es, if_neg (fun q => by rw [hw] at q; cases q.1)]
                · unfold rpS
                  rw [enl, exl, erl, if_neg (fun q => by rw [hw] at q; cases q.2.2.2.2.2)]
              | true =>
                obtain ⟨j8, n8⟩ := hs hw
                have er : rpS L ds de p = joinE (nvL L (p + 8) 2) (nvL L (p + 10) 2) (nvL L (p + 16) 4) p (p + 46 + nl + xl + rl) (nameS L (p + 46) nl) (numS L ds p (rP (recF L (p + 46 + nl + xl) (p + 46 + nl + xl) (p + 46 + nl)) (p + 46 + nl + xl)) (rL (recF L (p + 46 + nl + xl) (p + 46 + nl + xl) (p + 46 + nl)))) := by
                  unfold rpS
                  rw [enl, exl, erl, if_pos ⟨c1, c2, c3, c4, c5, hw⟩]
                rw [hnm] at er
                cases hns : numS L ds p (rP (recF L (p + 46 + nl + xl) (p + 46 + nl + xl) (p + 46 + nl)) (p + 46 + nl + xl)) (rL (recF L (p + 46 + nl + xl) (p + 46 + nl + xl) (p + 46 + nl))) with
                | none =>
                  rw [hns] at er es
                  refine no _ J' ?_ oJ er
                  rw [es, if_neg (fun q => by cases q.2)]
                | some x =>
                  obtain ⟨sz, pk, of_⟩ := x
                  obtain ⟨n5, n4, n6⟩ := n8 sz pk of_ hns
                  rw [hns] at er es
                  refine ⟨J', ?_, oJ, ?_⟩
                  · rw [es, er, if_pos ⟨hw, rfl⟩]
                    rfl
                  · intro E hE
                    rw [er] at hE
                    cases hE
                    intro j hj
                    match j, hj with
                    | 0, _ => rw [j8 0 (by decide) (by decide) (by decide), q0, hnm]; rfl
                    | 1, _ => rw [j8 1 (by decide) (by decide) (by decide), q1]; rfl
                    | 2, _ => rw [j8 2 (by decide) (by decide) (by decide), q2]; rfl
                    | 3, _ => rw [j8 3 (by decide) (by decide) (by decide), q3]; rfl
                    | 4, _ => exact n4
                    | 5, _ => exact n5
                    | 6, _ => exact n6
                    | 7, _ => rw [j8 7 (by decide) (by decide) (by decide), q7]; rfl
                    | 8, _ => rw [j8 8 (by decide) (by decide) (by decide), q8]; rfl
            by_cases d0 : nvL L (p + 8) 2 = 0
            · rw [if_pos (show nI (nvL L (p + 8) 2) = 0 by rw [d0]; rfl)]
              exact fin (Or.inl d0)
            · rw [if_neg (nI_ne0 (by omega) (by omega))]
              by_cases d8 : nvL L (p + 8) 2 = 8
              · rw [if_pos (show nI (nvL L (p + 8) 2) = nI 8 by rw [d8])]
                exact fin (Or.inr d8)
              · rw [if_neg (fun q => d8 ((nI_eq (by omega) (by decide)).mp q))]
                refine hno _ rfl ?_
                unfold rpS
                rw [enl, exl, erl, if_neg (fun q => q.2.2.2.2.1.elim d0 d8)]
          · rw [if_neg c4, if_pos rfl]
            refine hno _ rfl ?_
            unfold rpS
            rw [enl, exl, erl, if_neg (fun q => c4 q.2.2.2.1)]
      · rw [if_neg (nI_ge (by omega) (by omega))]
        refine no _ J2 rfl (fun o _ ho => o2 o ho) ?_
        unfold rpS
        rw [enl, exl, erl, if_neg (fun q => c3 q.2.2.1)]
    · rw [if_neg (fun q => c2 ((lg_ln (hz _ _ (by decide)) (by decide)).mp q))]
      refine no _ J rfl (fun _ _ _ => rfl) ?_
      unfold rpS
      rw [if_neg (fun q => c2 q.2.1)]
  · rw [if_pos (show nI de - nI p < 46 from (hr_sub (a := de) (b := p) (k := 46) (by omega) (by omega) (by decide)).mpr (by omega))]
    refine no _ J rfl (fun _ _ _ => rfl) ?_
    unfold rpS
    rw [if_neg (fun q => c1 q.1)]
end Cq
