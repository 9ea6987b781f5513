/-! add, by the class. -/
def conB (me : Int32) (B : List Int32) : List Int32 := if me = 8 then pkS B else B
def flg (lt : Bool) : Int32 := if lt then 8 else 0
def farB (wd : Int32) (lt : Bool) : Bool := decide (¬ wd = 0 ∧ ¬ flg lt = 8)
/-- what stands before the directory -/
def adP (L B : List Int32) (wd y me : Int32) (nb ds : Nat) (lt : Bool) : List Int32 := L.take ds ++ locH (flg lt) me (crcL B) (nI (conB me B).length) (nI B.length) y nb lt (farB wd lt) ++ conB me B ++ (if lt then behB (crcL B) (nI (conB me B).length) (nI B.length) else [])
def adU (L B : List Int32) (wd y me : Int32) (nb ds : Nat) (lt : Bool) (left : Nat) (es : List Ent) : List Int32 := adP L B wd y me nb ds lt ++ kpL L left 0 es ++ prtB (flg lt) me (crcL B) (nI (conB me B).length) (nI B.length) (nI ds) y nb (farB wd lt)
/-- the file behind add -/
def adL (L B : List Int32) (wd y me : Int32) (nb ds e : Nat) (lt : Bool) (left : Nat) (es : List Ent) (nn : Int32) : List Int32 := fin L wd nn (nI (adP L B wd y me nb ds lt).length) e (adU L B wd y me nb ds lt left es)
theorem adP_len {L B : List Int32} {wd y me : Int32} {nb ds : Nat} {lt : Bool} (h : ds ≤ L.length) : (adP L B wd y me nb ds lt).length = ds + (30 + nb + (if farB wd lt then 20 else 0)) + (conB me B).length + (if lt then 16 else 0) := by
  unfold adP
  rw [List.length_append, List.length_append, List.length_append, List.length_take, locH_len, Nat.min_eq_left h]
  cases lt with
  | false => rfl
  | true => simp only [if_true, behB_len]
theorem adU_len {L B : List Int32} {wd y me : Int32} {nb ds : Nat} {lt : Bool} {left : Nat} {es : List Ent} : (adU L B wd y me nb ds lt left es).length = (adP L B wd y me nb ds lt).length + (kpL L left 0 es).length + (46 + nb + (if farB wd lt then 28 else 0)) := by
  unfold adU
  rw [List.length_append, List.length_append, prtB_len]
theorem adL_len {L B : List Int32} {wd y me nn : Int32} {nb ds e : Nat} {lt : Bool} {left : Nat} {es : List Ent} (he : e + 22 ≤ L.length) : (adL L B wd y me nb ds e lt left es nn).length = (adU L B wd y me nb ds lt left es).length + (if wd = 0 then 22 else 98) + (L.length - (e + 22)) := fin_len he
theorem isB_conB {me : Int32} {B : List Int32} (hb : ∀ b ∈ B, isB b) : ∀ b ∈ conB me B, isB b := by
  unfold conB
  by_cases h : me = 8
  · rw [if_pos h]; exact isB_pkS B
  · rw [if_neg h]; exact hb
theorem isB_adL {L B : List Int32} {wd y me nn : Int32} {nb ds e : Nat} {lt : Bool} {left : Nat} {es : List Ent} (hL : ∀ b ∈ L, isB b) (hB : ∀ b ∈ B, isB b) : ∀ b ∈ adL L B wd y me nb ds e lt left es nn, isB b := by
  refine isB_fin hL (isB_app (isB_app (isB_app (isB_app (isB_app (isB_take hL) (isB_locH _ _ _ _ _ _ _ _ _)) (isB_conB hB)) ?_) (isB_kpL hL)) (isB_prtB _ _ _ _ _ _ _ _ _))
  cases lt
  · exact isB_nil
  · exact isB_behB _ _ _
theorem conB_len {me : Int32} {B : List Int32} (hB : B.length ≤ 200) : (conB me B).length ≤ 227 := by
  unfold conB
  have := pkS_len hB
  by_cases h : me = 8
  · rw [if_pos h]; omega
  · rw [if_neg h]; omega
section Ua
variable {J : yJ} {A : yA} {s : Nat} {Q : zW} {F : Nat} {B L : List Int32} {wd y me : Int32} {n ds de e : Nat} {lt : Bool} {es : List Ent}
theorem c_fr22 (hF : 20000 ≤ F) (hS : Sh A) (h1 : J 1 1 = nI B.length) (h2 : (A 2).take B.length = B) (h4 : J 24 4 = nI ds) (h5 : me = 8 → J 5 1 = nI (pkS B).length) (f : Int32) : b_Zip_describeFresh_22 F 0 me 38 f (YW J A s Q) = some ((), YW (pj (pj (pj (pj (pj (pj J 38 1 f) 38 2 me) 38 3 (crcL B)) 38 5 (nI B.length)) 38 4 (nI (conB me B).length)) 38 6 (nI ds)) A s Q) := by
  have hc : f_Row_checksum F 1 (YW (pj (pj J 38 1 f) 38 2 me) A s Q) = some (crcL B, YW (pj (pj J 38 1 f) 38 2 me) A s Q) := rw_crc F hF (R_rw r12 hS (by rw [pj_o (by decide), pj_o (by decide)]; exact h1) h2)
  unfold b_Zip_describeFresh_22 b_Zip_describeFresh_88 conB
  simp only [wg_Z, wp_E, wo_R, Option.bind_some, hc, wg_R, wg_A]
  rw [pj_o (by decide), pj_o (by decide), pj_o (by decide), h1]
  by_cases c8 : me = 8
  · rw [if_pos c8, if_pos c8, pj_o (by decide), pj_o (by decide), pj_o (by decide), pj_o (by decide), h5 c8, pj_o (by decide), pj_o (by decide), pj_o (by decide), pj_o (by decide), pj_o (by decide), h4]
  · rw [if_neg c8, if_neg c8, pj_o (by decide), pj_o (by decide), pj_o (by decide), pj_o (by decide), h1, pj_o (by decide), pj_o (by decide), pj_o (by decide), pj_o (by decide), pj_o (by decide), h4]
theorem c_fresh (hF : 20000 ≤ F) (hS : Sh A) (h1 : J 1 1 = nI B.length) (h2 : (A 2).take B.length = B) (h4 : J 24 4 = nI ds) (h5 : me = 8 → J 5 1 = nI (pkS B).length) : ∃ J', f_Zip_describeFresh F 0 y me (bI lt) (YW J A s Q) = some ((), YW J' A s Q) ∧ J' 38 0 = y ∧ J' 38 1 = flg lt ∧ J' 38 2 = me ∧ J' 38 3 = crcL B ∧ J' 38 4 = nI (conB me B).length ∧ J' 38 5 = nI B.length ∧ J' 38 6 = nI ds ∧ ∀ o, o ≠ 38 → J' o = J o := by
  have key := fun f => c_fr22 (J := pj J 38 0 y) (A := A) (s := s) (Q := Q) (B := B) (me := me) (ds := ds) hF hS (by rw [pj_o (by decide)]; exact h1) h2 (by rw [pj_o (by decide)]; exact h4) (by intro h; rw [pj_o (by decide)]; exact h5 h) f
  refine ⟨pj (pj (pj (pj (pj (pj (pj J 38 0 y) 38 1 (flg lt)) 38 2 me) 38 3 (crcL B)) 38 5 (nI B.length)) 38 4 (nI (conB me B).length)) 38 6 (nI ds), ?_, ?_, ?_, ?_, ?_, ?_, ?_, ?_, ?_⟩
  · unfold f_Zip_describeFresh b_Zip_describeFresh_0
    simp only [wg_Z, wp_E, Option.bind_some]
    cases lt with
    | false => rw [if_pos (show bI false = 0 from rfl)]; exact key 0
    | true => rw [if_neg (show ¬ bI true = 0 by decide)]; exact key 8
  · rw [pj_k (by decide), pj_k (by decide), pj_k (by decide), pj_k (by decide), pj_k (by decide), pj_k (by decide), pj_s]
  · rw [pj_k (by decide), pj_k (by decide), pj_k (by decide), pj_k (by decide), pj_k (by decide), pj_s]
  · rw [pj_k (by decide), pj_k (by decide), pj_k (by decide), pj_k (by decide), pj_s]
  · rw [pj_k (by decide), pj_k (by decide), pj_k (by decide), pj_s]
  · rw [pj_k (by decide), pj_s]
  · rw [pj_k (by decide), pj_k (by decide), pj_s]
  · rw [pj_s]
  · intro o ho
    rw [pj_row ho, pj_row ho, pj_row ho, pj_row ho, pj_row ho, pj_row ho, pj_row ho]
theorem CE_eq {J' : yJ} (hE : CE J es) (h8 : es.length ≤ 8) (h : ∀ o, 27 ≤ o → o < 35 → J' o = J o) : CE J' es := by
  intro i hi j hj
  rw [h (27 + i) (by omega) (by omega)]
  exact hE i hi j hj
/-- from where the new part is described -/
theorem c_add89 (hF : 20000 ≤ F) (hS : Sh A) (hC : CI J A B L wd) (hG : GI B L wd) (hy : isNam y n) (k3 : J 24 3 = nI es.length) (k4 : J 24 4 = nI ds) (k6 : J 24 6 = nI (e + 22)) (hE : CE J es) (h8 : es.length ≤ 8) (hd : de ≤ L.length) (hds : ds ≤ L.length) (he : e + 22 ≤ L.length) (hc : ∀ i (h : i < es.length), es[i] 7 ≤ es[i] 8 ∧ es[i] 8 ≤ de) (hP : me = 8 → J 5 1 = nI (pkS B).length ∧ (A 6).take (pkS B).length = pkS B) {left : Nat} {x : Int32} (hx : ∀ k, k < 8 → (nI k = x ↔ k = left)) (nn : Int32) :
    ∃ J' A', Sh A' ∧ J' 39 = J 39 ∧ (∀ j, 40 ≤ j → A' j = A j) ∧ (((adL L B wd y me (nbN n) ds e lt left es nn).length ≤ 1600 ∧ b_Zip_add_89 F 0 y me (bI lt) x nn (YW J A s Q) = some (.inl nn, YW J' A' s Q) ∧ CI J' A' B (adL L B wd y me (nbN n) ds e lt left es nn) wd) ∨ (1600 < (adL L B wd y me (nbN n) ds e lt left es nn).length ∧ b_Zip_add_89 F 0 y me (bI lt) x nn (YW J A s Q) = some (.inr (YW J' A' s Q).length, YW J' A' s Q ++ [.inr (.inr (.inr (11, [])))]) ∧ CI J' A' B L wd)) := by
  have hL := hG.2.2.1
  have hB := hG.2.1
  have hpl := pkS_len hB
  obtain ⟨J1, f1, g0, g1, g2, g3, g4, g5, g6, o1⟩ := c_fresh (F := F) (J := J) (A := A) (s := s) (Q := Q) (y := y) (me := me) (lt := lt) hF hS hC.1 hC.2.1 k4 (fun h => (hP h).1)
  have C1 : CI J1 A B L wd := by
    obtain ⟨c1, c2, c3, c4, c5⟩ := hC
    exact ⟨by rw [o1 1 (by decide)]; exact c1, c2, by rw [o1 3 (by decide)]; exact c3, c4, by rw [o1 35 (by decide)]; exact c5⟩
  have j24 : J1 24 = J 24 := o1 24 (by decide)
  have E1 : CE J1 es := CE_eq hE h8 (fun o h1 h2 => o1 o (by omega))
  obtain ⟨st, b1, b2⟩ := c_begin (F := F) (J := J1) (s := s) (Q := Q) hS C1.2.2.1 C1.2.2.2.1 hds
  have hfr : farB wd lt = decide (¬ J1 35 1 = 0 ∧ ¬ J1 38 1 = 8) := by rw [C1.2.2.2.2, g1]; rfl
  have hlt : lt = decide (J1 38 1 = 8) := by rw [g1]; cases lt <;> decide
  have hy1 : isNam (J1 38 0) n := by rw [g0]; exact hy
  generalize hst1 : stL st (locH (flg lt) me (crcL B) (nI (conB me B).length) (nI B.length) y (nbN n) lt (farB wd lt)) (conB me B) lt (behB (crcL B) (nI (conB me B).length) (nI B.length)) = st1
  have R1 : Rp st1 (adP L B wd y me (nbN n) ds lt) := by rw [← hst1]; exact b2.l
  have hloc : (if me = 8 then ((getR (dw J1 A s Q st) 0 8 2).bind fun x129 => f_Writer_writeLocal F 35 38 x129 (dw J1 A s Q st)) else ((getR (dw J1 A s Q st) 0 8 0).bind fun x136 => f_Writer_writeLocal F 35 38 x136 (dw J1 A s Q st))) = some ((), dw J1 A s Q st1) := by
    rw [← hst1]
    by_cases c8 : me = 8
    · have ec : conB me B = pkS B := if_pos c8
      have := dw_local (F := F) (J := J1) (A := A) (s := s) (Q := Q) (st := st) (n := n) (lt := lt) (fr := farB wd lt) (r := 5) (a := 6) (C := conB me B) hF hS hy1 hfr hlt r56 (by decide) (by decide) (fun st => by rw [dw_38.2.2.2.2.2.2.2.2, o1 5 (by decide), (hP c8).1, ec]) (by rw [o1 5 (by decide), (hP c8).1, ec]) (by rw [ec]; exact (hP c8).2) (by rw [ec]; exact (by show (pkS B).length ≤ 227; omega))
      rw [if_pos c8, dw_g.2.2.2.2.2.2.2.2.1, Option.bind_some, this, g0, g1, g2, g3, g4, g5]
    · have ec : conB me B = B := if_neg c8
      have := dw_local (F := F) (J := J1) (A := A) (s := s) (Q := Q) (st := st) (n := n) (lt := lt) (fr := farB wd lt) (r := 1) (a := 2) (C := conB me B) hF hS hy1 hfr hlt r12 (by decide) (by decide) (fun st => by rw [dw_38.2.2.2.2.2.2.2.1, C1.1, ec]) (by rw [C1.1, ec]) (by rw [ec]; exact C1.2.1) (by rw [ec]; exact hB)
      rw [if_neg c8, dw_g.2.2.2.2.2.2.1, Option.bind_some, this, g0, g1, g2, g3, g4, g5]
  obtain ⟨st2, c1, c2⟩ := c_keep (F := F) (s := s) (Q := Q) (left := left) (x := x) (de := de) hF hS C1.2.2.1 C1.2.2.2.1 (by rw [j24]; exact k3) h8 E1 hd hc hx R1
  have hprt := dw_prt (F := F) (J := J1) (A := A) (s := s) (Q := Q) (st := st2) (n := n) (fr := farB wd lt) hF hS hy1 hfr
  rw [g0, g1, g2, g3, g4, g5, g6] at hprt
  have R3 : Rp (sN st2 (prtB (flg lt) me (crcL B) (nI (conB me B).length) (nI B.length) (nI ds) y (nbN n) (farB wd lt))) (adU L B wd y me (nbN n) ds lt left es) := c2.n
  have hpre : b_Zip_add_89 F 0 y me (bI lt) x nn (YW J A s Q) = (f_Zip_finishFile F 0 nn (sZ st1) (dw J1 A s Q (sN st2 (prtB (flg lt) me (crcL B) (nI (conB me B).length) (nI B.length) (nI ds) y (nbN n) (farB wd lt))))).bind fun r => match r with | (.inl _, w176) => some ((.inl nn), w176) | (.inr qx176, w176) => some (.inr qx176, w176) := by
    have h139 : ∀ r, f_Writer_writeLocal F 35 38 r (dw J1 A s Q st) = some ((), dw J1 A s Q st1) → b_Zip_add_139 F 0 x nn 35 38 r (dw J1 A s Q st) = (f_Zip_finishFile F 0 nn (sZ st1) (dw J1 A s Q (sN st2 (prtB (flg lt) me (crcL B) (nI (conB me B).length) (nI B.length) (nI ds) y (nbN n) (farB wd lt))))).bind fun r => match r with | (.inl _, w176) => some ((.inl nn), w176) | (.inr qx176, w176) => some (.inr qx176, w176) := by
      intro r hr
      unfold b_Zip_add_139
      simp only [dw_g, Option.bind_some, hr, c1, hprt]
      rfl
    unfold b_Zip_add_89
    simp only [wo_Z, wg_Z, wo_T, wg_A, Option.bind_some, f1]
    rw [show J1 24 4 = nI ds by rw [j24]; exact k4, b1, Option.bind_some]
    simp only [dw_g, Option.bind_some]
    by_cases c8 : me = 8
    · rw [if_pos c8] at hloc
      rw [if_pos c8]
      simp only [dw_g, Option.bind_some] at hloc
      exact h139 5 hloc
    · rw [if_neg c8] at hloc
      rw [if_neg c8]
      simp only [dw_g, Option.bind_some] at hloc
      exact h139 1 hloc
  obtain ⟨J2, A2, S2, j2, a2, hcase⟩ := c_finish (F := F) (s := s) (Q := Q) (e := e) hF hS C1 hL (by rw [j24]; exact k6) he nn (sZ st1) R3
  have hlen : (fin L wd nn (sZ st1) e (adU L B wd y me (nbN n) ds lt left es)).length = (adL L B wd y me (nbN n) ds e lt left es nn).length := by rw [adL_len he, fin_len he]
  have j39 : J1 39 = J 39 := o1 39 (by decide)
  refine ⟨J2, A2, S2, j2.trans j39, a2, ?_⟩
  rcases hcase with ⟨q1, q2, q3⟩ | ⟨q1, q2, q3⟩
  · left
    have hz : sZ st1 = nI (adP L B wd y me (nbN n) ds lt).length := R1.z (by rw [fin_len he, adU_len] at q1; omega)
    rw [hlen] at q1
    refine ⟨q1, ?_, ?_⟩
    · rw [hpre, q2]; rfl
    · rw [hz] at q3; exact q3
  · right
    rw [hlen] at q1
    refine ⟨q1, ?_, q3⟩
    rw [hpre, q2]; rfl
end Ua
