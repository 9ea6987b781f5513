/-! readEnd, both sides. -/
section Re
variable {J : yJ} {A : yA} {s : Nat} {Q : zW} {L : List Int32} {F e : Nat}
/-- counts and bounds, taken one behind the other -/
theorem c_take {n n2 sz fr en : Nat} (h1 : n < 2 ^ 64) (h2 : n2 < 2 ^ 64) (h3 : sz < 2 ^ 64) (h4 : fr < 2 ^ 64) (h5 : en < 2 ^ 31) :
    ∃ J', (∀ k : Int32 × zW → Option (Int32 × zW), (f_Archive_takeCounts F 24 (lN_ n) (lN_ n2) (YW J A s Q)).bind (fun r => if r.1 = 0 then some ((0 : Int32), r.2) else k r) = if n = n2 ∧ n ≤ 8 then k (1, YW (pj J 24 3 (nI n)) A s Q) else some (0, YW J A s Q)) ∧
    ((f_Archive_takeBounds F 24 (lN_ fr) (lN_ sz) (nI en) (YW (pj J 24 3 (nI n)) A s Q)).bind (fun r => if r.1 = 0 then some ((0 : Int32), r.2) else some ((1 : Int32), r.2)) = some (if fr ≤ en ∧ sz = en - fr then 1 else 0, YW J' A s Q)) ∧ (∀ o, o ≠ 24 → J' o = J o) ∧ J' 24 6 = J 24 6 ∧ (fr ≤ en ∧ sz = en - fr → J' 24 3 = nI n ∧ J' 24 4 = nI fr ∧ J' 24 5 = nI en) := by
  by_cases hc : fr ≤ en ∧ sz = en - fr
  · refine ⟨pj (pj (pj J 24 3 (nI n)) 24 4 (nI fr)) 24 5 (nI en), ?_, ?_, ?_, ?_, ?_⟩
    · intro k
      rw [c_counts h1 h2]
      by_cases hn : n = n2 ∧ n ≤ 8
      · rw [if_pos hn, if_pos hn, Option.bind_some, if_neg (show ¬ (1 : Int32) = 0 by decide)]
      · rw [if_neg hn, if_neg hn, Option.bind_some, if_pos rfl]
    · rw [c_bounds h4 h3 h5, if_pos hc, if_pos hc, Option.bind_some, if_neg (show ¬ (1 : Int32) = 0 by decide)]
    · intro o ho
      rw [pj_row ho, pj_row ho, pj_row ho]
    · rw [pj_k (by decide), pj_k (by decide), pj_k (by decide)]
    · intro _
      exact ⟨by rw [pj_k (by decide), pj_k (by decide), pj_s], by rw [pj_k (by decide), pj_s], pj_s⟩
  · refine ⟨pj J 24 3 (nI n), ?_, ?_, ?_, ?_, fun q => absurd q hc⟩
    · intro k
      rw [c_counts h1 h2]
      by_cases hn : n = n2 ∧ n ≤ 8
      · rw [if_pos hn, if_pos hn, Option.bind_some, if_neg (show ¬ (1 : Int32) = 0 by decide)]
      · rw [if_neg hn, if_neg hn, Option.bind_some, if_pos rfl]
    · rw [c_bounds h4 h3 h5, if_neg hc, if_neg hc, Option.bind_some, if_pos rfl]
    · exact fun o ho => pj_row ho
    · exact pj_k (by decide)
theorem take_fin {J' : yJ} {n n2 sz fr en : Nat} (X : Option (Int32 × zW)) (hX : X = if n = n2 ∧ n ≤ 8 then some (if fr ≤ en ∧ sz = en - fr then 1 else 0, YW J' A s Q) else some (0, YW J A s Q)) (t3 : ∀ o, o ≠ 24 → J' o = J o) (t4 : J' 24 6 = J 24 6) (t5 : fr ≤ en ∧ sz = en - fr → J' 24 3 = nI n ∧ J' 24 4 = nI fr ∧ J' 24 5 = nI en) : ∃ J'', X = some (if (takeE n n2 sz fr en).isSome then 1 else 0, YW J'' A s Q) ∧ (∀ o, o ≠ 24 → J'' o = J o) ∧ J'' 24 6 = J 24 6 ∧ ∀ a ds de, takeE n n2 sz fr en = some (a, ds, de) → J'' 24 3 = nI a ∧ J'' 24 4 = nI ds ∧ J'' 24 5 = nI de := by
  by_cases hn : n = n2 ∧ n ≤ 8
  · rw [if_pos hn] at hX
    by_cases hc : fr ≤ en ∧ sz = en - fr
    · have e : takeE n n2 sz fr en = some (n, fr, en) := by unfold takeE; rw [if_pos ⟨hn.1, hn.2, hc.1, hc.2⟩]
      rw [if_pos hc] at hX
      refine ⟨J', by rw [hX, e]; rfl, t3, t4, ?_⟩
      intro a ds de q
      rw [e] at q
      cases q
      exact t5 hc
    · have e : takeE n n2 sz fr en = none := by unfold takeE; rw [if_neg (fun q => hc ⟨q.2.2.1, q.2.2.2⟩)]
      rw [if_neg hc] at hX
      refine ⟨J', by rw [hX, e]; rfl, t3, t4, ?_⟩
      intro a ds de q
      rw [e] at q
      cases q
  · rw [if_neg hn] at hX
    have e : takeE n n2 sz fr en = none := by unfold takeE; rw [if_neg (fun q => hn ⟨q.1, q.2.1⟩)]
    refine ⟨J, by rw [hX, e]; rfl, fun _ _ => rfl, rfl, ?_⟩
    intro a ds de q
    rw [e] at q
    cases q
theorem c_readEnd (hF : 20000 ≤ F) (h : FI J A L) (he : e + 22 ≤ L.length) : ∃ J', f_Archive_readEnd F 24 (nI e) (YW J A s Q) = some (if (reS L e).isSome then 1 else 0, YW J' A s Q) ∧ (∀ o, o ≠ 24 → J' o = J o) ∧ J' 24 6 = J 24 6 ∧ ∀ n ds de, reS L e = some (n, ds, de) → J' 24 3 = nI n ∧ J' 24 4 = nI ds ∧ J' 24 5 = nI de := by
  have h3 := h.2.2.2.1
  have hb := h.2.2.2.2
  have hN : ∀ (p n : Nat), p + n ≤ L.length → n ≤ 8 → ∀ J' : yJ, FI J' A L → f_Row_number F 3 (nI p) (nI n) (YW J' A s Q) = some (lN_ (nvL L p n), YW J' A s Q) := fun p n h1 h2 J' h => W_number hF h h1 h2
  have l16 : ∀ x : Nat, nI e + nI x = nI (e + x) := fun x => nI_add e x
  have hz : ∀ (p n : Nat), n ≤ 8 → nvL L p n < 2 ^ 64 := fun p n hn => nvL_64 hb hn
  unfold f_Archive_readEnd b_Archive_readEnd_0 b_Archive_readEnd_172 b_Archive_readEnd_250 b_Archive_readEnd_77
  simp only [wg_A, wo_A, R_o hr3, Option.bind_some]
  rw [show (16 : Int32) = nI 16 from rfl, show (4 : Int32) = nI 4 from rfl, l16, hN _ _ (by omega) (by decide) J h, Option.bind_some]
  simp only []
  rw [show (4294967295 : Int64) = lN_ 4294967295 from rfl]
  by_cases hw : nvL L (e + 16) 4 = 4294967295
  · rw [if_pos ((lg_ln (hz _ _ (by decide)) (by decide)).mpr hw)]
    unfold reS
    rw [if_pos hw]
    have bad : ∀ X : Option (Int32 × zW), X = some (0, YW J A s Q) → ¬ (76 ≤ e ∧ nvL L (e - 20) 4 = 117853008 ∧ nvL L (e - 12) 8 = e - 76 ∧ nvL L (e - 76) 4 = 101075792 ∧ nvL L (e - 72) 8 = 44) → ∃ J', X = some (if (if 76 ≤ e ∧ nvL L (e - 20) 4 = 117853008 ∧ nvL L (e - 12) 8 = e - 76 ∧ nvL L (e - 76) 4 = 101075792 ∧ nvL L (e - 72) 8 = 44 then takeE (nvL L (e - 52) 8) (nvL L (e - 44) 8) (nvL L (e - 36) 8) (nvL L (e - 28) 8) (e - 76) else none).isSome then 1 else 0, YW J' A s Q) ∧ (∀ o, o ≠ 24 → J' o = J o) ∧ J' 24 6 = J 24 6 ∧ ∀ n ds de, (if 76 ≤ e ∧ nvL L (e - 20) 4 = 117853008 ∧ nvL L (e - 12) 8 = e - 76 ∧ nvL L (e - 76) 4 = 101075792 ∧ nvL L (e - 72) 8 = 44 then takeE (nvL L (e - 52) 8) (nvL L (e - 44) 8) (nvL L (e - 36) 8) (nvL L (e - 28) 8) (e - 76) else none) = some (n, ds, de) → J' 24 3 = nI n ∧ J' 24 4 = nI ds ∧ J' 24 5 = nI de := by
      intro X hX hc
      rw [if_neg hc]
      exact ⟨J, hX, fun _ _ => rfl, rfl, fun _ _ _ q => by cases q⟩
    rw [show (20 : Int32) = nI 20 from rfl, show (56 : Int32) = nI 56 from rfl]
    by_cases h76 : 76 ≤ e
    · rw [pk_sub (a := e) (b := 20) (by omega), pk_sub (a := e - 20) (b := 56) (by omega), if_neg (nI_pos (by omega))]
      simp only [wg_A, wo_A, R_o hr3, Option.bind_some]
      rw [hN (e - 20) 4 (by omega) (by decide) J h, Option.bind_some]
      simp only []
      rw [show (117853008 : Int64) = lN_ 117853008 from rfl]
      by_cases k1 : nvL L (e - 20) 4 = 117853008
      · rw [if_pos ((lg_ln (hz _ _ (by decide)) (by decide)).mpr k1)]
        simp only [wg_A, wo_A, R_o hr3, Option.bind_some]
        rw [show (8 : Int32) = nI 8 from rfl, nI_add, show e - 20 + 8 = e - 12 by omega, hN (e - 12) 8 (by omega) (by decide) J h, Option.bind_some]
        simp only []
        rw [show e - 20 - 56 = e - 76 by omega, ex_bv (by omega)]
        by_cases k2 : nvL L (e - 12) 8 = e - 76
        · rw [if_pos ((lg_ln (hz _ _ (by decide)) (by omega)).mpr k2)]
          simp only [wg_A, wo_A, R_o hr3, Option.bind_some]
          rw [hN (e - 76) 4 (by omega) (by decide) J h, Option.bind_some]
          simp only []
          rw [show (101075792 : Int64) = lN_ 101075792 from rfl]
          by_cases k3 : nvL L (e - 76) 4 = 101075792
          · rw [if_pos ((lg_ln (hz _ _ (by decide)) (by decide)).mpr k3)]
            simp only [wg_A, wo_A, R_o hr3, Option.bind_some]
            rw [nI_add, show e - 76 + 4 = e - 72 by omega, hN (e - 72) 8 (by omega) (by decide) J h, Option.bind_some]
            simp only []
            rw [show (44 : Int64) = lN_ 44 from rfl]
            by_cases k4 : nvL L (e - 72) 8 = 44
            · have hall : 76 ≤ e ∧ nvL L (e - 20) 4 = 117853008 ∧ nvL L (e - 12) 8 = e - 76 ∧ nvL L (e - 76) 4 = 101075792 ∧ nvL L (e - 72) 8 = 44 := ⟨h76, k1, k2, k3, k4⟩
              rw [if_pos ((lg_ln (hz _ _ (by decide)) (by decide)).mpr k4), if_pos hall]
              simp only [wg_A, wo_A, R_o hr3, Option.bind_some]
              rw [show (24 : Int32) = nI 24 from rfl, nI_add, show e - 76 + 24 = e - 52 by omega, hN (e - 52) 8 (by omega) (by decide) J h, Option.bind_some]
              simp only [wg_A, wo_A, R_o hr3, Option.bind_some]
              rw [show (32 : Int32) = nI 32 from rfl, nI_add, show e - 76 + 32 = e - 44 by omega, hN (e - 44) 8 (by omega) (by decide) J h, Option.bind_some]
              simp only [wg_A, wo_A, R_o hr3, Option.bind_some]
              obtain ⟨J', t1, t2, t3, t4, t5⟩ := c_take (J := J) (A := A) (s := s) (Q := Q) (F := F) (hz (e - 52) 8 (by decide)) (hz (e - 44) 8 (by decide)) (hz (e - 36) 8 (by decide)) (hz (e - 28) 8 (by decide)) (show e - 76 < 2 ^ 31 by omega)
              refine take_fin _ ?_ t3 t4 t5
              rw [t1]
              by_cases hn : nvL L (e - 52) 8 = nvL L (e - 44) 8 ∧ nvL L (e - 52) 8 ≤ 8
              · rw [if_pos hn, if_pos hn]
                simp only [wg_A, wo_A, R_o hr3, Option.bind_some]
                rw [show (48 : Int32) = nI 48 from rfl, nI_add, show e - 76 + 48 = e - 28 by omega, hN (e - 28) 8 (by omega) (by decide) _ (h.pj (Or.inl (by decide))), Option.bind_some]
                simp only [wg_A, wo_A, R_o hr3, Option.bind_some]
                rw [show (40 : Int32) = nI 40 from rfl, nI_add, show e - 76 + 40 = e - 36 by omega, hN (e - 36) 8 (by omega) (by decide) _ (h.pj (Or.inl (by decide))), Option.bind_some]
                simp only [wg_A, wo_A, R_o hr3, Option.bind_some]
                exact t2
              · rw [if_neg hn, if_neg hn]
            · rw [if_neg (fun q => k4 ((lg_ln (hz _ _ (by decide)) (by decide)).mp q))]
              exact bad _ rfl (fun q => k4 q.2.2.2.2)
          · rw [if_neg (fun q => k3 ((lg_ln (hz _ _ (by decide)) (by decide)).mp q))]
            exact bad _ rfl (fun q => k3 q.2.2.2.1)
        · rw [if_neg (fun q => k2 ((lg_ln (hz _ _ (by decide)) (by omega)).mp q))]
          exact bad _ rfl (fun q => k2 q.2.2.1)
      · rw [if_neg (fun q => k1 ((lg_ln (hz _ _ (by decide)) (by decide)).mp q))]
        exact bad _ rfl (fun q => k1 q.2.1)
    · rw [if_pos]
      · exact bad _ rfl (fun q => h76 q.1)
      · rw [Int32.lt_iff_toInt_lt, show nI e - nI 20 - nI 56 = nI e - nI 76 by rw [← show nI 20 + nI 56 = nI 76 from rfl, Int32.sub_sub], pk_sub_toInt (by omega) (by decide)]
        show _ < (0 : Int)
        omega
  · rw [if_neg (fun q => hw ((lg_ln (hz _ _ (by decide)) (by decide)).mp q))]
    unfold reS
    rw [if_neg hw]
    simp only [wg_A, wo_A, R_o hr3, Option.bind_some]
    rw [show (8 : Int32) = nI 8 from rfl, l16, show (2 : Int32) = nI 2 from rfl, hN (e + 8) 2 (by omega) (by decide) J h, Option.bind_some]
    simp only [wg_A, wo_A, R_o hr3, Option.bind_some]
    rw [show (10 : Int32) = nI 10 from rfl, l16, hN (e + 10) 2 (by omega) (by decide) J h, Option.bind_some]
    simp only [wg_A, wo_A, R_o hr3, Option.bind_some]
    obtain ⟨J', t1, t2, t3, t4, t5⟩ := c_take (J := J) (A := A) (s := s) (Q := Q) (F := F) (hz (e + 8) 2 (by decide)) (hz (e + 10) 2 (by decide)) (hz (e + 12) 4 (by decide)) (hz (e + 16) 4 (by decide)) (show e < 2 ^ 31 by omega)
    refine take_fin _ ?_ t3 t4 t5
    rw [t1]
    by_cases hn : nvL L (e + 8) 2 = nvL L (e + 10) 2 ∧ nvL L (e + 8) 2 ≤ 8
    · rw [if_pos hn, if_pos hn]
      simp only [wg_A, wo_A, R_o hr3, Option.bind_some]
      rw [show (12 : Int32) = nI 12 from rfl, l16, hN (e + 12) 4 (by omega) (by decide) _ (h.pj (Or.inl (by decide))), Option.bind_some]
      simp only [wg_A, wo_A, R_o hr3, Option.bind_some]
      exact t2
    · rw [if_neg hn, if_neg hn]
theorem m_wide (hF : 20000 ≤ F) (h : GF J A L) {p : Nat} (hp : p + 4 ≤ L.length) : f_Model_isWide F 39 (nI p) (YW J A s Q) = some (if nvL L p 4 = 4294967295 then 1 else 0, YW J A s Q) := by
  unfold f_Model_isWide b_Model_isWide_0
  simp only [wo_M, Option.bind_some]
  rw [show (4 : Int32) = nI 4 from rfl, M_number hF h hp (by decide), Option.bind_some]
  simp only []
  rw [show (4294967295 : Int64) = lN_ 4294967295 from rfl]
  by_cases hc : nvL L p 4 = 4294967295
  · rw [if_pos ((lg_ln (nvL_64 h.2.2.2.2 (by decide)) (by decide)).mpr hc), if_pos hc]
  · rw [if_neg (fun q => hc ((lg_ln (nvL_64 h.2.2.2.2 (by decide)) (by decide)).mp q)), if_neg hc]
theorem wi_ln {a b : Nat} (ha : a < 2 ^ 64) (hb : b < 2 ^ 63) (w : zW) : f_Model_within F (lN_ a) (0 : Int64) (lN_ b) w = some (if a ≤ b then 1 else 0, w) := by
  rw [wi64]
  simp only [ln_in ha hb]
theorem m_takeEnd (hF : 20000 ≤ F) (h : GF J A L) {p q k m en : Nat} (he : J 39 19 = nI en) (hen : en < 2 ^ 31) (hk : k ≤ 8) (hm : m ≤ 8) (h1 : p + k + k ≤ L.length) (h2 : q + m + m ≤ L.length) : ∃ J', f_Model_takeEnd F 39 (nI p) (nI q) (nI k) (nI m) (YW J A s Q) = some (if (takeE (nvL L p k) (nvL L (p + k) k) (nvL L q m) (nvL L (q + m) m) en).isSome then 1 else 0, YW J' A s Q) ∧ (∀ o, o ≠ 39 → J' o = J o) ∧ (∀ j, j ≠ 17 → j ≠ 18 → J' 39 j = J 39 j) ∧ ∀ n ds de, takeE (nvL L p k) (nvL L (p + k) k) (nvL L q m) (nvL L (q + m) m) en = some (n, ds, de) → J' 39 17 = nI n ∧ J' 39 18 = nI ds ∧ de = en := by
  have hb := h.2.2.2.2
  have z1 := nvL_64 (p := p) hb hk
  have z2 := nvL_64 (p := p + k) hb hk
  have z3 := nvL_64 (p := q) hb hm
  have z4 := nvL_64 (p := q + m) hb hm
  unfold f_Model_takeEnd b_Model_takeEnd_0 b_Model_takeEnd_87
  simp only [wo_M, Option.bind_some, M_number hF h (show p + k ≤ L.length by omega) hk, nI_add, M_number hF h h1 hk, M_number hF h (show q + m ≤ L.length by omega) hm, M_number hF h h2 hm]
  generalize nvL L p k = n at z1 ⊢
  generalize nvL L (p + k) k = n2 at z2 ⊢
  generalize nvL L q m = sz at z3 ⊢
  generalize nvL L (q + m) m = fr at z4 ⊢
  have no : ∀ X : Option (Int32 × zW), X = some (0, YW J A s Q) → takeE n n2 sz fr en = none → ∃ J', X = some (if (takeE n n2 sz fr en).isSome then 1 else 0, YW J' A s Q) ∧ (∀ o, o ≠ 39 → J' o = J o) ∧ (∀ j, j ≠ 17 → j ≠ 18 → J' 39 j = J 39 j) ∧ ∀ n' ds de, takeE n n2 sz fr en = some (n', ds, de) → J' 39 17 = nI n' ∧ J' 39 18 = nI ds ∧ de = en := by
    intro X hX e
    refine ⟨J, by rw [hX, e]; rfl, fun _ _ => rfl, fun _ _ _ => rfl, ?_⟩
    intro a b c q
    rw [e] at q
    cases q
  by_cases c1 : n = n2
  · rw [if_pos ((lg_ln z1 z2).mpr c1), show (8 : Int64) = lN_ 8 from rfl, wi_ln z1 (by decide), Option.bind_some]
    simp only []
    by_cases c2 : n ≤ 8
    · rw [if_pos c2, if_neg (show ¬ (1 : Int32) = 0 by decide)]
      simp only [wg_M, Option.bind_some, he]
      rw [ex_bv hen, wi_ln z4 (by omega), Option.bind_some]
      simp only []
      by_cases c3 : fr ≤ en
      · have es : lN_ en - lN_ fr = lN_ (en - fr) := by
          have := ln_add (en - fr) fr
          rw [Nat.sub_add_cancel c3] at this
          rw [← this, Int64.add_sub_cancel]
        rw [if_pos c3, if_neg (show ¬ (1 : Int32) = 0 by decide)]
        simp only [wg_M, Option.bind_some, he]
        rw [ex_bv hen, es]
        by_cases c4 : sz = en - fr
        · have e : takeE n n2 sz fr en = some (n, fr, en) := by unfold takeE; rw [if_pos ⟨c1, c2, c3, c4⟩]
          rw [if_pos ((lg_ln z3 (by omega)).mpr c4)]
          simp only [wp_M, Option.bind_some, ln_i32]
          refine ⟨pj (pj J 39 17 (nI n)) 39 18 (nI fr), by rw [e]; rfl, fun o ho => by rw [pj_row ho, pj_row ho], fun j j1 j2 => by rw [pj_k j2, pj_k j1], ?_⟩
          intro a b c q
          rw [e] at q
          cases q
          exact ⟨by rw [pj_k (by decide), pj_s], pj_s, rfl⟩
        · rw [if_neg (fun q => c4 ((lg_ln z3 (by omega)).mp q))]
          exact no _ rfl (by unfold takeE; rw [if_neg (fun q => c4 q.2.2.2)])
      · rw [if_neg c3, if_pos rfl]
        exact no _ rfl (by unfold takeE; rw [if_neg (fun q => c3 q.2.2.1)])
    · rw [if_neg c2, if_pos rfl]
      exact no _ rfl (by unfold takeE; rw [if_neg (fun q => c2 q.2.1)])
  · rw [if_neg (fun q => c1 ((lg_ln z1 z2).mp q))]
    exact no _ rfl (by unfold takeE; rw [if_neg (fun q => c1 q.1)])
theorem takeE_de {n n2 sz fr en a b c : Nat} (h : takeE n n2 sz fr en = some (a, b, c)) : c = en ∧ b ≤ en ∧ a ≤ 8 := by
  unfold takeE at h
  split at h
  · rename_i q
    cases h
    exact ⟨rfl, q.2.2.1, q.2.1⟩
  · cases h
theorem m_readEnd (hF : 20000 ≤ F) (h : GF J A L) (h16 : J 39 16 = nI e) (he : e + 22 ≤ L.length) : ∃ J', f_Model_readEnd F 39 (YW J A s Q) = some (if (reS L e).isSome then 1 else 0, YW J' A s Q) ∧ (∀ o, o ≠ 39 → J' o = J o) ∧ (∀ j, j ≠ 17 → j ≠ 18 → j ≠ 19 → J' 39 j = J 39 j) ∧ ∀ n ds de, reS L e = some (n, ds, de) → J' 39 17 = nI n ∧ J' 39 18 = nI ds ∧ J' 39 19 = nI de := by
  have h3 := h.2.2.2.1
  have hb := h.2.2.2.2
  have hz : ∀ (p n : Nat), n ≤ 8 → nvL L p n < 2 ^ 64 := fun p n hn => nvL_64 hb hn
  have l16 : ∀ x : Nat, nI e + nI x = nI (e + x) := fun x => nI_add e x
  have fin : ∀ (p q k m en : Nat), en < 2 ^ 31 → k ≤ 8 → m ≤ 8 → p + k + k ≤ L.length → q + m + m ≤ L.length → reS L e = takeE (nvL L p k) (nvL L (p + k) k) (nvL L q m) (nvL L (q + m) m) en → ∃ J', (f_Model_takeEnd F 39 (nI p) (nI q) (nI k) (nI m) (YW (pj J 39 19 (nI en)) A s Q)).bind (fun r => if r.1 = 0 ∨ r.1 = 1 then some (r.1, r.2) else none) = some (if (reS L e).isSome then 1 else 0, YW J' A s Q) ∧ (∀ o, o ≠ 39 → J' o = J o) ∧ (∀ j, j ≠ 17 → j ≠ 18 → j ≠ 19 → J' 39 j = J 39 j) ∧ ∀ n ds de, reS L e = some (n, ds, de) → J' 39 17 = nI n ∧ J' 39 18 = nI ds ∧ J' 39 19 = nI de := by
    intro p q k m en hen hk hm h1 h2 hre
    obtain ⟨J', e1, e2, e3, e4⟩ := m_takeEnd (s := s) (Q := Q) hF (h.pj (o := 39) (k := 19) (x := nI en) (Or.inr (by decide))) (en := en) pj_s hen hk hm h1 h2
    rw [hre]
    refine ⟨J', ?_, fun o ho => by rw [e2 o ho, pj_row ho], fun j a b c => by rw [e3 j a b, pj_k c], ?_⟩
    · rw [e1, Option.bind_some]
      simp only []
      by_cases hq : (takeE (nvL L p k) (nvL L (p + k) k) (nvL L q m) (nvL L (q + m) m) en).isSome = true
      · rw [if_pos hq, if_pos (Or.inr rfl)]
      · rw [if_neg hq, if_pos (Or.inl rfl)]
    · intro n ds de q
      obtain ⟨a, b, c⟩ := e4 n ds de q
      exact ⟨a, b, by rw [e3 19 (by decide) (by decide), pj_s, c]⟩
  unfold f_Model_readEnd b_Model_readEnd_0 b_Model_readEnd_121
  simp only [wg_M, wo_M, Option.bind_some, h16]
  rw [show (16 : Int32) = nI 16 from rfl, l16, m_wide hF h (by omega), Option.bind_some]
  simp only []
  by_cases hw : nvL L (e + 16) 4 = 4294967295
  · rw [if_pos hw, if_neg (show ¬ (1 : Int32) = 0 by decide)]
    simp only [wg_M, wo_M, Option.bind_some, h16]
    have bad : ∀ X : Option (Int32 × zW), X = some (0, YW J A s Q) → ¬ (76 ≤ e ∧ nvL L (e - 20) 4 = 117853008 ∧ nvL L (e - 12) 8 = e - 76 ∧ nvL L (e - 76) 4 = 101075792 ∧ nvL L (e - 72) 8 = 44) → ∃ J', X = some (if (reS L e).isSome then 1 else 0, YW J' A s Q) ∧ (∀ o, o ≠ 39 → J' o = J o) ∧ (∀ j, j ≠ 17 → j ≠ 18 → j ≠ 19 → J' 39 j = J 39 j) ∧ ∀ n ds de, reS L e = some (n, ds, de) → J' 39 17 = nI n ∧ J' 39 18 = nI ds ∧ J' 39 19 = nI de := by
      intro X hX hc
      have er : reS L e = none := by unfold reS; rw [if_pos hw, if_neg hc]
      rw [er]
      exact ⟨J, hX, fun _ _ => rfl, fun _ _ _ _ => rfl, fun _ _ _ q => by cases q⟩
    rw [show (76 : Int32) = nI 76 from rfl, show (20 : Int32) = nI 20 from rfl]
    by_cases h76 : 76 ≤ e
    · rw [pk_sub h76, pk_sub (a := e) (b := 20) (by omega), if_neg (nI_pos (by omega)), show (4 : Int32) = nI 4 from rfl, M_number hF h (by omega) (by decide), Option.bind_some]
      simp only []
      rw [show (117853008 : Int64) = lN_ 117853008 from rfl]
      by_cases k1 : nvL L (e - 20) 4 = 117853008
      · rw [if_pos ((lg_ln (hz _ _ (by decide)) (by decide)).mpr k1)]
        simp only [wo_M, Option.bind_some]
        rw [show (8 : Int32) = nI 8 from rfl, nI_add, show e - 20 + 8 = e - 12 by omega, M_number hF h (by omega) (by decide), Option.bind_some]
        simp only []
        rw [ex_bv (by omega)]
        by_cases k2 : nvL L (e - 12) 8 = e - 76
        · rw [if_pos ((lg_ln (hz _ _ (by decide)) (by omega)).mpr k2)]
          simp only [wo_M, Option.bind_some]
          rw [M_number hF h (by omega) (by decide), Option.bind_some]
          simp only []
          rw [show (101075792 : Int64) = lN_ 101075792 from rfl]
          by_cases k3 : nvL L (e - 76) 4 = 101075792
          · rw [if_pos ((lg_ln (hz _ _ (by decide)) (by decide)).mpr k3)]
            simp only [wo_M, Option.bind_some]
            rw [nI_add, show e - 76 + 4 = e - 72 by omega, M_number hF h (by omega) (by decide), Option.bind_some]
            simp only []
            rw [show (44 : Int64) = lN_ 44 from rfl]
            by_cases k4 : nvL L (e - 72) 8 = 44
            · have hall : 76 ≤ e ∧ nvL L (e - 20) 4 = 117853008 ∧ nvL L (e - 12) 8 = e - 76 ∧ nvL L (e - 76) 4 = 101075792 ∧ nvL L (e - 72) 8 = 44 := ⟨h76, k1, k2, k3, k4⟩
              rw [if_pos ((lg_ln (hz _ _ (by decide)) (by decide)).mpr k4)]
              simp only [wp_M, wo_M, Option.bind_some]
              rw [show (24 : Int32) = nI 24 from rfl, nI_add, show (40 : Int32) = nI 40 from rfl, nI_add]
              refine fin (e - 76 + 24) (e - 76 + 40) 8 8 (e - 76) (by omega) (by decide) (by decide) (by omega) (by omega) ?_
              unfold reS
              rw [if_pos hw, if_pos hall, show e - 76 + 24 = e - 52 by omega, show e - 52 + 8 = e - 44 by omega, show e - 76 + 40 = e - 36 by omega, show e - 36 + 8 = e - 28 by omega]
            · rw [if_neg (fun q => k4 ((lg_ln (hz _ _ (by decide)) (by decide)).mp q))]
              exact bad _ rfl (fun q => k4 q.2.2.2.2)
          · rw [if_neg (fun q => k3 ((lg_ln (hz _ _ (by decide)) (by decide)).mp q))]
            exact bad _ rfl (fun q => k3 q.2.2.2.1)
        · rw [if_neg (fun q => k2 ((lg_ln (hz _ _ (by decide)) (by omega)).mp q))]
          exact bad _ rfl (fun q => k2 q.2.2.1)
      · rw [if_neg (fun q => k1 ((lg_ln (hz _ _ (by decide)) (by decide)).mp q))]
        exact bad _ rfl (fun q => k1 q.2.1)
    · rw [if_pos (pk_sneg (by decide) (by omega))]
      exact bad _ rfl (fun q => h76 q.1)
  · rw [if_neg hw, if_pos rfl]
    simp only [wg_M, wp_M, wo_M, Option.bind_some, h16]
    rw [pj_k (by decide), h16, show (8 : Int32) = nI 8 from rfl, l16, show (12 : Int32) = nI 12 from rfl, l16, show (2 : Int32) = nI 2 from rfl, show (4 : Int32) = nI 4 from rfl]
    refine fin (e + 8) (e + 12) 2 4 e (by omega) (by decide) (by decide) (by omega) (by omega) ?_
    unfold reS
    rw [if_neg hw]
end Re
