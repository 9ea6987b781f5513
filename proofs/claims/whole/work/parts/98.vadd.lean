/-! add, by the class: from the first test on. -/
/-- what the search tells: how many entries there will be, and which part is left out -/
def adS (y : Int32) (es : List Ent) (x : Int32) (left nn : Nat) : Prop := fcF y (nms es) 0 = x ∧ ((left < es.length ∧ x = nI left ∧ nn = es.length) ∨ (x = -1 ∧ left = 8 ∧ nn = es.length + 1))
theorem adS_x {y x : Int32} {es : List Ent} {left nn : Nat} (h8 : es.length ≤ 8) (h : adS y es x left nn) : ∀ k, k < 8 → (nI k = x ↔ k = left) := by
  rcases h.2 with ⟨h1, rfl, -⟩ | ⟨rfl, rfl, -⟩
  · exact hx_of (by omega)
  · intro k hk
    exact ⟨fun q => absurd q (nI_neg1 (by omega)), fun q => by omega⟩
theorem adS_ex {y : Int32} {es : List Ent} (hnd : (nms es).Nodup) (h8 : es.length ≤ 8) : ∃ x left nn, adS y es x left nn := by
  rcases find_cases (xs := nms es) y hnd (List.take_of_length_le (by unfold nms; rw [List.length_map]; exact Nat.le_refl _)) h8 with ⟨i, hi, -, q, -⟩ | ⟨q, -, -⟩
  · exact ⟨nI i, i, es.length, q, Or.inl ⟨hi, rfl, rfl⟩⟩
  · exact ⟨-1, 8, es.length + 1, q, Or.inr ⟨rfl, rfl, rfl⟩⟩
theorem c_add {J : yJ} {A : yA} {s : Nat} {x : Int64} {Q : zW} {B L : List Int32} {wd : Int32} {F : Nat} (hF : 20000 ≤ F) (y me : Int32) (lt : Bool) (hS : Sh A) (hC : CI J A B L wd) (hG : GI B L wd) :
    (opS L = none → CO J A (f_Law_add F 0 y me (bI lt) 60 (YW J A s (.inr (.inl [x]) :: Q))) 1 0 B L wd) ∧
    ∀ e ds de es, opS L = some (e, ds, de, es) →
      ((∀ F w, 20000 ≤ F → f_Zip_nameBytes F y w = some (0, w)) → CO J A (f_Law_add F 0 y me (bI lt) 60 (YW J A s (.inr (.inl [x]) :: Q))) 2 0 B L wd) ∧
      ∀ n, isNam y n →
        (¬ (me = 0 ∨ me = 8) → CO J A (f_Law_add F 0 y me (bI lt) 60 (YW J A s (.inr (.inl [x]) :: Q))) 2 0 B L wd) ∧
        ((me = 0 ∨ me = 8) → ∀ z left nn, adS y es z left nn →
          (8 < nn → CO J A (f_Law_add F 0 y me (bI lt) 60 (YW J A s (.inr (.inl [x]) :: Q))) 3 0 B L wd) ∧
          (nn ≤ 8 → ((adL L B wd y me (nbN n) ds e lt left es (nI nn)).length ≤ 1600 → CO J A (f_Law_add F 0 y me (bI lt) 60 (YW J A s (.inr (.inl [x]) :: Q))) 0 (nI nn) B (adL L B wd y me (nbN n) ds e lt left es (nI nn)) wd) ∧ (1600 < (adL L B wd y me (nbN n) ds e lt left es (nI nn)).length → CO J A (f_Law_add F 0 y me (bI lt) 60 (YW J A s (.inr (.inl [x]) :: Q))) 3 0 B L wd))) := by
  obtain ⟨J', o1, n1, y1⟩ := c_need (F := F) (s := s) (Q := .inr (.inl [x]) :: Q) hF (FI_of hS hC hG)
  have hC' := CI_rd hC o1
  have j39 : J' 39 = J 39 := o1 39 (by decide) (by decide) (by omega)
  refine ⟨?_, ?_⟩
  · intro ho
    refine CO.mono (CO_thr (s' := s) (x := x) (Q' := Q) (c := .inr (.inr (.inr (14, [])))) hS hC' j39 (fun _ _ => rfl) (by decide)) ?_
    unfold f_Law_add b_Law_add_0 f_Zip_add b_Zip_add_0
    simp only [wo_Z, Option.bind_some, n1 ho]
    rw [if_pos exc_at]
  · intro e ds de es ho
    obtain ⟨e1, k3, k4, k5, k6, k7⟩ := y1 e ds de es ho
    obtain ⟨-, -, -, hnd, h8, hd1, hd2, hd3⟩ := opS_some ho
    have hch := (opS_chn hG.2.2.2.2 ho).1
    have hL := hG.2.2.1
    have t2 : CO J A (some (2, YW J' A s (.inr (.inl [x]) :: Q) ++ [.inr (.inr (.inr (10, [])))])) 2 0 B L wd := CO_thr (s' := s) (x := x) (Q' := Q) (c := .inr (.inr (.inr (10, [])))) hS hC' j39 (fun _ _ => rfl) (by decide)
    refine ⟨?_, ?_⟩
    · intro hn
      refine CO.mono t2 ?_
      unfold f_Law_add b_Law_add_0 f_Zip_add b_Zip_add_0 b_Zip_add_18
      simp only [wo_Z, Option.bind_some, e1, hn F _ hF]
      rw [if_pos trivial]
      simp only [Option.bind_some]
      rw [if_neg (exc_no (by decide)), if_pos exc_at]
    · intro n hy
      have hnb := nbN_le n
      have hn0 : ¬ nI (nbN n) = 0 := nI_ne0 (by omega) (by omega)
      refine ⟨?_, ?_⟩
      · intro hm
        refine CO.mono t2 ?_
        unfold f_Law_add b_Law_add_0 f_Zip_add b_Zip_add_0 b_Zip_add_18
        simp only [wo_Z, Option.bind_some, e1, nam_c hy hF, c_isMe]
        rw [if_neg hn0, if_neg hm, if_pos (show (0 : Int32) = 0 from rfl)]
        simp only [Option.bind_some]
        rw [if_neg (exc_no (by decide)), if_pos exc_at]
      · intro hm z left nn hz
        have hfind := c_find (F := F) (A := A) (s := s) (Q := .inr (.inl [x]) :: Q) hF (x := y) k7 k3 h8
        have hpre : f_Zip_add F 0 y me (bI lt) (YW J A s (.inr (.inl [x]) :: Q)) = if nI nn ≤ (8 : Int32) then (if me = (8 : Int32) then ((f_Packer_packAll F 9 1 (YW J' A s (.inr (.inl [x]) :: Q))).bind fun r86 => b_Zip_add_89 F 0 y me (bI lt) z (nI nn) r86.2) else (b_Zip_add_89 F 0 y me (bI lt) z (nI nn) (YW J' A s (.inr (.inl [x]) :: Q)))) else (some (.inr (YW J' A s (.inr (.inl [x]) :: Q)).length, YW J' A s (.inr (.inl [x]) :: Q) ++ [.inr (.inr (.inr (11, [])))])) := by
          unfold f_Zip_add b_Zip_add_0
          simp only [wo_Z, Option.bind_some, e1, nam_c hy hF, c_isMe]
          rw [if_neg hn0, if_pos hm, if_neg (show ¬ (1 : Int32) = 0 by decide)]
          simp only [wg_Z, wo_A, wg_A, Option.bind_some, hfind, hz.1, k3]
          have h54 : ∀ s1 : Int32, nI es.length + s1 = nI nn → b_Zip_add_54 F 0 y me (bI lt) z (nI es.length) s1 (YW J' A s (.inr (.inl [x]) :: Q)) = if nI nn ≤ (8 : Int32) then (if me = (8 : Int32) then ((f_Packer_packAll F 9 1 (YW J' A s (.inr (.inl [x]) :: Q))).bind fun r86 => b_Zip_add_89 F 0 y me (bI lt) z (nI nn) r86.2) else (b_Zip_add_89 F 0 y me (bI lt) z (nI nn) (YW J' A s (.inr (.inl [x]) :: Q)))) else (some (.inr (YW J' A s (.inr (.inl [x]) :: Q)).length, YW J' A s (.inr (.inl [x]) :: Q) ++ [.inr (.inr (.inr (11, [])))])) := by
            intro s1 hs
            unfold b_Zip_add_54
            simp only [hs, wg_Z, wo_P, Option.bind_some]
          rcases hz.2 with ⟨h1, h2, h3⟩ | ⟨h1, h2, h3⟩
          · rw [if_neg (by rw [h2]; exact nI_neg1 (by omega))]
            exact h54 0 (by rw [h3]; exact Int32.add_zero _)
          · rw [if_pos h1]
            exact h54 1 (by rw [h3]; exact nI_1 _)
        have hnn : nn ≤ 9 := by rcases hz.2 with ⟨h1, h2, h3⟩ | ⟨h1, h2, h3⟩ <;> omega
        refine ⟨?_, ?_⟩
        · intro hgt
          refine CO.mono (CO_thr (s' := s) (x := x) (Q' := Q) (c := .inr (.inr (.inr (11, [])))) hS hC' j39 (fun _ _ => rfl) (by decide)) ?_
          unfold f_Law_add b_Law_add_0
          simp only [wo_Z, Option.bind_some, hpre]
          rw [if_neg (show ¬ nI nn ≤ (8 : Int32) from nI_ge (a := 8) hgt (by omega))]
          simp only [Option.bind_some]
          rw [if_neg (exc_no (by decide)), if_neg (exc_no (by decide)), if_pos exc_at]
        · intro hle
          have h89 : ∃ J1 A1, Sh A1 ∧ J1 39 = J 39 ∧ (∀ j, 40 ≤ j → A1 j = A j) ∧ (((adL L B wd y me (nbN n) ds e lt left es (nI nn)).length ≤ 1600 ∧ f_Zip_add F 0 y me (bI lt) (YW J A s (.inr (.inl [x]) :: Q)) = some (.inl (nI nn), YW J1 A1 s (.inr (.inl [x]) :: Q)) ∧ CI J1 A1 B (adL L B wd y me (nbN n) ds e lt left es (nI nn)) wd) ∨ (1600 < (adL L B wd y me (nbN n) ds e lt left es (nI nn)).length ∧ f_Zip_add F 0 y me (bI lt) (YW J A s (.inr (.inl [x]) :: Q)) = some (.inr (YW J1 A1 s (.inr (.inl [x]) :: Q)).length, YW J1 A1 s (.inr (.inl [x]) :: Q) ++ [.inr (.inr (.inr (11, [])))]) ∧ CI J1 A1 B L wd)) := by
            rw [hpre, if_pos (show nI nn ≤ (8 : Int32) from nI_le (b := 8) hle (by decide))]
            by_cases c8 : me = 8
            · obtain ⟨J2, A2, e2, S2, p1, p2, o2, a2⟩ := c_packAll (F := F) (J := J') (A := A) (s := s) (Q := .inr (.inl [x]) :: Q) hF hS hC'.1 hC'.2.1 hG.2.1 hG.2.2.2.1
              have C2 : CI J2 A2 B L wd := by
                obtain ⟨c1, c2, c3, c4, c5⟩ := hC'
                refine ⟨?_, ?_, ?_, ?_, ?_⟩
                · rw [o2 1 (by decide) (by decide)]; exact c1
                · rw [a2 2 (by decide)]; exact c2
                · rw [o2 3 (by decide) (by decide)]; exact c3
                · rw [a2 4 (by decide)]; exact c4
                · rw [o2 35 (by decide) (by decide)]; exact c5
              have j24 : J2 24 = J' 24 := o2 24 (by decide) (by decide)
              obtain ⟨J3, A3, S3, j3, a3, hcase⟩ := c_add89 (F := F) (J := J2) (A := A2) (s := s) (Q := .inr (.inl [x]) :: Q) (y := y) (me := me) (n := n) (ds := ds) (de := de) (e := e) (lt := lt) (es := es) (left := left) (x := z) hF S2 C2 hG hy (by rw [j24]; exact k3) (by rw [j24]; exact k4) (by rw [j24]; exact k6) (CE_eq k7 h8 (fun o q1 q2 => o2 o (by omega) (by omega))) h8 (by omega) (by omega) hd3 (fun i h => ⟨(chn_at hch i h).1, (chn_at hch i h).2.1⟩) (fun _ => ⟨p1, p2⟩) (adS_x h8 hz) (nI nn)
              refine ⟨J3, A3, S3, ?_, ?_, ?_⟩
              · rw [j3, o2 39 (by decide) (by decide), j39]
              · intro j hj; rw [a3 j hj, a2 j (by omega)]
              · rw [if_pos c8, e2, Option.bind_some]
                exact hcase
            · obtain ⟨J3, A3, S3, j3, a3, hcase⟩ := c_add89 (F := F) (J := J') (A := A) (s := s) (Q := .inr (.inl [x]) :: Q) (y := y) (me := me) (n := n) (ds := ds) (de := de) (e := e) (lt := lt) (es := es) (left := left) (x := z) hF hS hC' hG hy k3 k4 k6 k7 h8 (by omega) (by omega) hd3 (fun i h => ⟨(chn_at hch i h).1, (chn_at hch i h).2.1⟩) (fun q => absurd q c8) (adS_x h8 hz) (nI nn)
              refine ⟨J3, A3, S3, ?_, ?_, ?_⟩
              · rw [j3, j39]
              · intro j hj; rw [a3 j hj]
              · rw [if_neg c8]
                exact hcase
          obtain ⟨J1, A1, S1, jj, aa, hcase⟩ := h89
          refine ⟨?_, ?_⟩
          · intro hl
            rcases hcase with ⟨q1, q2, q3⟩ | ⟨q1, -, -⟩
            · refine CO.mono (CO_ret (s' := s) (x := x) (Q' := Q) S1 q3 jj aa) ?_
              unfold f_Law_add b_Law_add_0
              simp only [wo_Z, Option.bind_some, q2]
            · omega
          · intro hg
            rcases hcase with ⟨q1, -, -⟩ | ⟨q1, q2, q3⟩
            · omega
            · refine CO.mono (CO_thr (s' := s) (x := x) (Q' := Q) (c := .inr (.inr (.inr (11, [])))) S1 q3 jj aa (by decide)) ?_
              unfold f_Law_add b_Law_add_0
              simp only [wo_Z, Option.bind_some, q2]
              rw [if_neg (exc_no (by decide)), if_neg (exc_no (by decide)), if_pos exc_at]
