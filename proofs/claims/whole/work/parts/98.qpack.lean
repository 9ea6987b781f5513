/-! Packing, by the class: all; by the reference. -/
theorem byS_pad {T : List Nat} {z j : Nat} : byS (T ++ List.replicate z 0) j = byS T j := by
  refine bvF_congr (fun i _ => ?_)
  rw [List.getD_eq_getElem?_getD, List.getD_eq_getElem?_getD]
  by_cases h : 8 * j + i < T.length
  · rw [List.getElem?_append_left h]
  · rw [List.getElem?_append_right (by omega), List.getElem?_replicate, List.getElem?_eq_none (by omega)]
    split <;> rfl
theorem byL_pad {T : List Nat} {z n : Nat} : byL (T ++ List.replicate z 0) n = byL T n := by
  unfold byL
  apply List.map_congr_left
  intro j _
  rw [byS_pad]
theorem lo_0 (n : Nat) : lo 0 0 n = List.replicate n 0 := by
  unfold lo
  apply List.eq_replicate_iff.mpr
  refine ⟨by rw [List.length_map, List.length_range', Nat.sub_zero], ?_⟩
  intro b hb
  obtain ⟨i, -, rfl⟩ := List.mem_map.mp hb
  rw [Nat.zero_div]
section Pq
variable {J : yJ} {A : yA} {s : Nat} {Q : zW} {F : Nat} {T : List Nat} {B : List Int32}
def tl33 (F : Nat) (w : zW) : Option (Unit × zW) := (getI w 9 3 2).bind fun x105 => if x105 ≤ 0 then (some ((), w)) else ((getI w 9 3 2).bind fun x116 => (zobj w 9 3).bind fun _ => (f_Packer_writeBits F 9 (0 : Int32) ((8 : Int32) - x116) w).bind fun r120 => some ((), r120.2))
theorem c_pk_l (hF : 20000 ≤ F) (hS : Sh A) (h2 : (A 2).take B.length = B) (hB : B.length ≤ 200) (hb : ∀ b ∈ B, isB b) : ∀ (m q i : Nat) (J : yJ) (T : List Nat), J 1 1 = nI B.length → is01 T → T.length ≤ 3 + 9 * i → i ≤ B.length → B.length - i < m → B.length - i < q → ∃ J', (∀ o, o ≠ 9 → J' o = J o) ∧ l_Packer_packAll_33 F q 9 1 (nI i) (pw J A s Q T) = tl33 F (pw J' A s Q (T ++ bdS B m i)) := by
  intro m
  induction m with
  | zero => intro q i J T _ _ _ _ h; omega
  | succ m ih =>
    intro q i J T h1 h01 hT hi hm hq
    obtain ⟨q, rfl⟩ : ∃ q', q = q' + 1 := ⟨q - 1, by omega⟩
    show ∃ J', _ ∧ b_Packer_packAll_33 F (l_Packer_packAll_33 F q) 9 1 (nI i) (pw J A s Q T) = _
    unfold b_Packer_packAll_33 b_Packer_packAll_90 bdS
    rw [show getI (pw J A s Q T) 1 0 1 = some (J 1 1) from rfl, Option.bind_some, h1]
    by_cases hlt : i < B.length
    · have hbi := (getB hb hlt).1
      have hbq := bsS_le B i i
      have hst := stB_len hB hlt
      have h01' : is01 (T ++ stB B i) := h01.app (stB_01 _ _)
      have hT' : (T ++ stB B i).length ≤ 3 + 9 * (i + stN B i) := by rw [List.length_append]; omega
      rw [if_neg (nI_ge hlt (by omega)), if_pos hlt, pw_o, pw_find hF h1 h2 hB hlt, Option.bind_some, ← List.append_assoc]
      have h1' : pj (pj J 9 3 (nI (bsS B i i).1)) 9 4 (nI (bsS B i i).2) 1 1 = nI B.length := by rw [pj_o (by decide), pj_o (by decide)]; exact h1
      obtain ⟨J', o', e'⟩ := ih q (i + stN B i) (pj (pj J 9 3 (nI (bsS B i i).1)) 9 4 (nI (bsS B i i).2)) (T ++ stB B i) h1' h01' hT' hst.2.2 (by omega) (by omega)
      refine ⟨J', fun o ho => by rw [o' o ho, pj_row ho, pj_row ho], ?_⟩
      rw [← e']
      simp only []
      rw [pw_g3.1, Option.bind_some]
      unfold stB stN
      by_cases c : (bsS B i i).1 < 3
      · have hsym := pw_sym (F := F) (J := pj (pj J 9 3 (nI (bsS B i i).1)) 9 4 (nI (bsS B i i).2)) (A := A) (s := s) (Q := Q) (T := T) (sy := bN (B.getD i 0)) hF hS (by omega) h01 (by omega)
        have hgb : B.getD i 0 = nI (bN (B.getD i 0)) := by
          have := (getB hb hlt).2
          rw [List.getElem?_eq_getElem hlt, gD_e hlt] at this
          exact Option.some.inj this
        rw [if_pos (show nI (bsS B i i).1 < (3 : Int32) from nI_lt (b := 3) c (by decide)), if_pos c, if_pos c, show zobj (pw (pj (pj J 9 3 (nI (bsS B i i).1)) 9 4 (nI (bsS B i i).2)) A s Q T) 1 0 = some _ from rfl, Option.bind_some, pw_get hB h1' h2 hlt, Option.bind_some]
        simp only [pw_o]
        rw [← hgb] at hsym
        rw [hsym, Option.bind_some]
        simp only []
        rw [nI_1]
      · have d1 := hbq.2.2 (by omega)
        have hlen := pw_length (F := F) (J := pj (pj J 9 3 (nI (bsS B i i).1)) 9 4 (nI (bsS B i i).2)) (A := A) (s := s) (Q := Q) (T := T) (n := (bsS B i i).1) hF hS (by omega) (by omega) h01 (by omega)
        have l13 : (lnB (bsS B i i).1).length ≤ 13 := (len_eq ⟨(bsS B i i).1, by omega⟩ (by show 3 ≤ (bsS B i i).1; omega)).2.2.2.2.1
        have hdis := pw_distance (F := F) (J := pj (pj J 9 3 (nI (bsS B i i).1)) 9 4 (nI (bsS B i i).2)) (A := A) (s := s) (Q := Q) (T := T ++ lnB (bsS B i i).1) (d := (bsS B i i).2) hF hS (by omega) (by omega) (h01.app (lnB_01 _)) (by rw [List.length_append]; omega)
        rw [if_neg (show ¬ nI (bsS B i i).1 < (3 : Int32) from nI_nlt (b := 3) (by omega) (by omega)), if_neg c, if_neg c, Option.bind_some, pw_o, hlen, Option.bind_some]
        simp only []
        rw [pw_g3.2, Option.bind_some, pw_o, hdis, Option.bind_some]
        simp only []
        rw [pw_g3.1, Option.bind_some, nI_add, List.append_assoc]
    · have hsym := pw_sym (F := F) (J := J) (A := A) (s := s) (Q := Q) (T := T) (sy := 256) hF hS (by decide) h01 (by omega)
      rw [if_pos (nI_le (by omega) (by omega)), if_neg hlt, pw_o, show f_Packer_writeSymbol F 9 256 (pw J A s Q T) = _ from hsym, Option.bind_some]
      exact ⟨J, fun _ _ => rfl, rfl⟩
/-- packAll -/
theorem c_packAll (hF : 20000 ≤ F) (hS : Sh A) (h1 : J 1 1 = nI B.length) (h2 : (A 2).take B.length = B) (hB : B.length ≤ 200) (hb : ∀ b ∈ B, isB b) : ∃ J' A', f_Packer_packAll F 9 1 (YW J A s Q) = some ((), YW J' A' s Q) ∧ Sh A' ∧ J' 5 1 = nI (pkS B).length ∧ (A' 6).take (pkS B).length = pkS B ∧ (∀ o, o ≠ 5 → o ≠ 9 → J' o = J o) ∧ ∀ j, j ≠ 6 → A' j = A j := by
  have h6 : (A 6).length = 227 := hS 6
  have e0 : YW (pj (pj (pj (pj J 5 1 0) 5 2 0) 9 1 0) 9 2 0) A s Q = pw J A s Q [] := by
    unfold pw
    show _ = YW (pj (pj (pj (pj J 5 1 0) 5 2 0) 9 1 0) 9 2 0) (ud A 6 (wr (A 6) 0 [])) s Q
    rw [wr_nil, ud_id rfl]
  have b1 := pw_bits (F := F) (J := J) (A := A) (s := s) (Q := Q) (T := []) (v := 1) (n := 1) hF hS (by decide) (by decide) (fun b hb => by cases hb) (by decide)
  have b2 := pw_bits (F := F) (J := J) (A := A) (s := s) (Q := Q) (T := [1]) (v := 1) (n := 2) hF hS (by decide) (by decide) (is01.one (by decide)) (by decide)
  have t1 : ([] : List Nat) ++ lo 1 0 1 = [1] := by decide
  have t2 : [1] ++ lo 1 0 2 = [1, 1, 0] := by decide
  rw [t1] at b1
  rw [t2] at b2
  obtain ⟨J1, o1, e1⟩ := c_pk_l (F := F) (s := s) (Q := Q) hF hS h2 hB hb 201 F 0 J [1, 1, 0] h1 (fun b hb => by simp at hb; omega) (by decide) (Nat.zero_le _) (by omega) (by omega)
  have ep : [1, 1, 0] ++ bdS B 201 0 = pkT B := rfl
  rw [ep, show (nI 0 : Int32) = 0 from rfl] at e1
  have hpre : f_Packer_packAll F 9 1 (YW J A s Q) = tl33 F (pw J1 A s Q (pkT B)) := by
    unfold f_Packer_packAll b_Packer_packAll_0
    rw [show getR (YW J A s Q) 9 3 0 = some 5 from rfl, Option.bind_some, R_o r56, Option.bind_some, W_empty r56, Option.bind_some]
    simp only [wp_P, Option.bind_some]
    rw [e0, pw_o, show f_Packer_writeBits F 9 1 1 (pw J A s Q []) = _ from b1, Option.bind_some]
    simp only [pw_o]
    rw [show f_Packer_writeBits F 9 1 2 (pw J A s Q [1]) = _ from b2, Option.bind_some]
    exact e1
  have hlen := pkT_len hB
  have h01 := pkT_01 B
  have hrow : ∀ (T : List Nat), T.length % 8 = 0 → T.length ≤ 1816 → byL T (T.length / 8) = pkS B → ∃ J' A', some ((), pw J1 A s Q T) = some ((), YW J' A' s Q) ∧ Sh A' ∧ J' 5 1 = nI (pkS B).length ∧ (A' 6).take (pkS B).length = pkS B ∧ (∀ o, o ≠ 5 → o ≠ 9 → J' o = J o) ∧ ∀ j, j ≠ 6 → A' j = A j := by
    intro T hT0 hT1 hby
    refine ⟨_, _, rfl, pw_S hS (by omega), ?_, ?_, ?_, fun j hj => ud_n hj⟩
    · rw [pj_o (by decide), pj_o (by decide), pj_k (by decide), pj_s, ← hby, byL_len]
    · rw [ud_s, ← hby]
      exact wr0_take (by rw [byL_len]; omega)
    · intro o ho ho9
      rw [pj_row ho9, pj_row ho9, pj_row ho, pj_row ho, o1 o ho9]
  rw [hpre]
  unfold tl33
  rw [show getI (pw J1 A s Q (pkT B)) 9 3 2 = some (nI ((pkT B).length % 8)) from rfl, Option.bind_some]
  have hr : (pkT B).length % 8 < 8 := Nat.mod_lt _ (by decide)
  by_cases c : (pkT B).length % 8 = 0
  · rw [if_pos (show nI ((pkT B).length % 8) ≤ 0 by rw [c]; decide)]
    refine hrow (pkT B) c (by omega) ?_
    unfold pkS
    rw [show ((pkT B).length + 7) / 8 = (pkT B).length / 8 by omega]
  · have b3 := pw_bits (F := F) (J := J1) (A := A) (s := s) (Q := Q) (T := pkT B) (v := 0) (n := 8 - (pkT B).length % 8) hF hS (by decide) (by omega) h01 (by omega)
    rw [if_neg (nI_nle (by omega) (by omega)), Option.bind_some, pw_o, show (8 : Int32) = nI 8 from rfl, pk_sub (by omega), show f_Packer_writeBits F 9 0 (nI (8 - (pkT B).length % 8)) (pw J1 A s Q (pkT B)) = _ from b3, Option.bind_some, lo_0]
    refine hrow _ ?_ ?_ ?_
    · rw [List.length_append, List.length_replicate]; omega
    · rw [List.length_append, List.length_replicate]; omega
    · rw [byL_pad]
      unfold pkS
      rw [List.length_append, List.length_replicate, show ((pkT B).length + (8 - (pkT B).length % 8)) / 8 = ((pkT B).length + 7) / 8 by omega]
end Pq
/-! the reference -/
def qw (J : yJ) (A : yA) (s : Nat) (Q : zW) (T : List Nat) : zW := YW (pj (pj J 39 6 (nI ((T.length + 7) / 8))) 39 10 (nI T.length)) (ud A 42 (wr (A 42) 0 (byL T ((T.length + 7) / 8)))) s Q
theorem wr_last {xs X : List Int32} {y z : Int32} : (wr xs 0 (X ++ [y])).set X.length z = wr xs 0 (X ++ [z]) := by
  unfold wr
  rw [List.take_zero, List.nil_append, List.nil_append, List.append_assoc, List.append_assoc, List.set_append_right _ _ (Nat.le_refl _), Nat.sub_self, List.length_append, List.length_append]
  rfl
section Qw
variable {J : yJ} {A : yA} {s : Nat} {Q : zW} {F : Nat} {T : List Nat} {B : List Int32}
theorem qw_o {α : Type} (X : Option α) : ((zobj (qw J A s Q T) 39 9).bind fun _ => X) = X := rfl
/-- putBit -/
theorem m_putBit (hS : Sh A) (h01 : is01 T) {b : Nat} (hb : b < 2) (hT : T.length < 3000) : f_Model_putBit F 39 (nI b) (qw J A s Q T) = some ((), qw J A s Q (T ++ [b])) := by
  have hr : T.length % 8 < 8 := Nat.mod_lt _ (by decide)
  have h42 : (A 42).length = 400 := hS 42
  have hlow := byS_low h01
  have hp : 2 ^ (T.length % 8) ≤ 2 ^ 7 := Nat.pow_le_pow_right (by decide) (by omega)
  have hbp : b * 2 ^ (T.length % 8) ≤ 1 * 2 ^ (T.length % 8) := Nat.mul_le_mul_right _ (by omega)
  have hl : (T ++ [b]).length = T.length + 1 := by rw [List.length_append, List.length_singleton]
  have e1 : ((T ++ [b]).length + 7) / 8 = T.length / 8 + 1 := by rw [hl]; omega
  -- the second half, from a world whose last byte is the one in work
  have half : f_Model_putBit F 39 (nI b) (qw J A s Q T) = b_Model_putBit_30 F 39 (nI b) (YW (pj (pj J 39 6 (nI (T.length / 8 + 1))) 39 10 (nI T.length)) (ud A 42 (wr (A 42) 0 (byL T (T.length / 8) ++ [nI (byS T (T.length / 8))]))) s Q) := by
    unfold f_Model_putBit b_Model_putBit_0
    rw [show getI (qw J A s Q T) 39 9 10 = some (nI T.length) from rfl, Option.bind_some, show (8 : Int32) = nI 8 from rfl, nI_mod (by omega) (by decide) (by decide)]
    by_cases c : T.length % 8 = 0
    · have e2 : (T.length + 7) / 8 = T.length / 8 := by omega
      have e3 : byS T (T.length / 8) = 0 := byS_end (by omega)
      rw [if_pos (show nI (T.length % 8) = 0 by rw [c]; rfl), show getR (qw J A s Q T) 39 9 7 = some 42 from rfl, Option.bind_some, show getI (qw J A s Q T) 39 9 6 = some (nI ((T.length + 7) / 8)) from rfl, Option.bind_some, e2, e3]
      unfold qw
      rw [e2, as_ (by decide) (by rw [ud_s, wr_len (by rw [byL_len]; omega)]; omega) (by rw [ud_s, wr_len (by rw [byL_len]; omega)]; omega), Option.bind_some]
      simp only [wg_M, wp_M, Option.bind_some]
      have e4 := wr_wr (xs := A 42) (n := 0) (X := byL T (T.length / 8)) (Y := [0]) (by rw [byL_len, List.length_singleton]; omega)
      rw [byL_len, Nat.zero_add] at e4
      rw [ud_s, ud_ud, wr_set (by rw [wr_len (by rw [byL_len]; omega)]; omega), e4, pj_k (by decide), pj_s, nI_1, pj_comm (o := 39) (k := 10) (p := 39) (q := 6) (Or.inr (by decide)), pj_pj]
      rfl
    · have e2 : (T.length + 7) / 8 = T.length / 8 + 1 := by omega
      rw [if_neg (nI_ne0 (by omega) (by omega))]
      unfold qw
      rw [e2, byL_succ]
  rw [half]
  unfold b_Model_putBit_30
  have hg : aget (YW (pj (pj J 39 6 (nI (T.length / 8 + 1))) 39 10 (nI T.length)) (ud A 42 (wr (A 42) 0 (byL T (T.length / 8) ++ [nI (byS T (T.length / 8))]))) s Q) 42 (nI (T.length / 8)) = some (nI (byS T (T.length / 8))) := by
    refine ag_ (by decide) (by omega) ?_
    rw [ud_s, wr_get_in (Nat.zero_le _) (by rw [List.length_append, byL_len, List.length_singleton]; omega) (Nat.zero_le _), Nat.sub_zero, List.getElem?_append_right (by rw [byL_len]; omega), byL_len, Nat.sub_self]
    rfl
  simp only [wg_M, Option.bind_some]
  have g6 : pj (pj J 39 6 (nI (T.length / 8 + 1))) 39 10 (nI T.length) 39 6 = nI (T.length / 8 + 1) := by rw [pj_k (by decide), pj_s]
  have g10 : pj (pj J 39 6 (nI (T.length / 8 + 1))) 39 10 (nI T.length) 39 10 = nI T.length := pj_s
  rw [g6, g10, nI_pred, hg, Option.bind_some, show (8 : Int32) = nI 8 from rfl, nI_mod (by omega) (by decide) (by decide), shlD (by omega) (by omega), nI_add, ← byS_new, as_ (by decide) (by rw [ud_s, wr_len (by rw [List.length_append, byL_len, List.length_singleton]; omega)]; omega) (by rw [ud_s, wr_len (by rw [List.length_append, byL_len, List.length_singleton]; omega)]; omega), Option.bind_some]
  simp only [wg_M, wp_M, Option.bind_some]
  rw [g10, nI_1, pj_pj, ud_s, ud_ud]
  have e5 := wr_last (xs := A 42) (X := byL T (T.length / 8)) (y := nI (byS T (T.length / 8))) (z := nI (byS (T ++ [b]) (T.length / 8)))
  rw [byL_len] at e5
  rw [e5]
  unfold qw
  rw [e1, byL_succ, byL_old (by omega), hl]
theorem m_putLow_l (hS : Sh A) {v n : Nat} (hv : v < 2 ^ 31) (hn : n ≤ 20) : ∀ (m k : Nat) (T : List Nat), is01 T → k ≤ n → n - k < m → T.length + (n - k) ≤ 2500 → l_Model_putLow_2 F m 39 (nI v) (nI n) (nI k) (qw J A s Q T) = some ((), qw J A s Q (T ++ lo v k n)) := by
  intro m
  induction m with
  | zero => intro k T _ _ h; omega
  | succ m ih =>
    intro k T h01 hk hm hT
    show b_Model_putLow_2 F (l_Model_putLow_2 F m) 39 (nI v) (nI n) (nI k) (qw J A s Q T) = _
    unfold b_Model_putLow_2
    by_cases hlt : k < n
    · have eb : (nI v >>> (nI k &&& 31)) &&& (1 : Int32) = nI (v / 2 ^ k % 2) := by
        rw [shrD (by omega) hv, pk_andN (m := (1 : Int32)) (by have := Nat.div_le_self v (2 ^ k); omega) 1 (by decide)]
      rw [if_neg (nI_ge hlt (by omega)), qw_o, eb, m_putBit hS h01 (Nat.mod_lt _ (by decide)) (by omega), Option.bind_some, nI_1, ih (k + 1) _ (h01.app (is01.one (Nat.mod_lt _ (by decide)))) (by omega) (by omega) (by rw [List.length_append, List.length_singleton]; omega), lo_cons hlt, List.append_assoc]
      rfl
    · rw [if_pos (nI_le (by omega) (by omega)), lo_nil (by omega), List.append_nil]
theorem m_putLow (hF : 20000 ≤ F) (hS : Sh A) {v n : Nat} (hv : v < 2 ^ 31) (hn : n ≤ 20) (h01 : is01 T) (hT : T.length + n ≤ 2500) : f_Model_putLow F 39 (nI v) (nI n) (qw J A s Q T) = some ((), qw J A s Q (T ++ lo v 0 n)) := m_putLow_l hS hv hn F 0 T h01 (Nat.zero_le _) (by omega) (by omega)
theorem m_putWord_l (hS : Sh A) {v pl : Nat} (hv : v < 2 ^ 31) (hpl : pl < 339) (hw : (A 45)[pl]? = some (nI v)) : ∀ (n m : Nat) (T : List Nat), is01 T → n < m → n ≤ 20 → T.length + n ≤ 2500 → l_Model_putWord_9 F m 39 (nI pl) (nI n - 1) (qw J A s Q T) = some ((), qw J A s Q (T ++ wb v n)) := by
  intro n
  induction n with
  | zero =>
    intro m T h01 hm _ _
    obtain ⟨m, rfl⟩ : ∃ q, m = q + 1 := ⟨m - 1, by omega⟩
    show b_Model_putWord_9 F (l_Model_putWord_9 F m) 39 (nI pl) (nI 0 - 1) (qw J A s Q T) = _
    unfold b_Model_putWord_9
    rw [if_pos (by decide)]
    show _ = some ((), qw J A s Q (T ++ []))
    rw [List.append_nil]
  | succ n ih =>
    intro m T h01 hm hn hT
    obtain ⟨m, rfl⟩ : ∃ q, m = q + 1 := ⟨m - 1, by omega⟩
    show b_Model_putWord_9 F (l_Model_putWord_9 F m) 39 (nI pl) (nI (n + 1) - 1) (qw J A s Q T) = _
    unfold b_Model_putWord_9
    have hg : aget (qw J A s Q T) 45 (nI pl) = some (nI v) := ag_ (by decide) (by omega) (by rw [ud_n (by decide)]; exact hw)
    have eb : (nI v >>> (nI n &&& 31)) &&& (1 : Int32) = nI (v / 2 ^ n % 2) := by
      rw [shrD (by omega) hv, pk_andN (m := (1 : Int32)) (by have := Nat.div_le_self v (2 ^ n); omega) 1 (by decide)]
    rw [nI_pred, if_neg (nI_pos (by omega)), show getR (qw J A s Q T) 39 9 13 = some 45 from rfl, Option.bind_some, hg, Option.bind_some, qw_o, eb, m_putBit hS h01 (Nat.mod_lt _ (by decide)) (by omega), Option.bind_some, ← Int32.sub_eq_add_neg]
    show l_Model_putWord_9 F m 39 (nI pl) (nI n - 1) (qw J A s Q (T ++ [v / 2 ^ n % 2])) = _
    rw [ih m _ (h01.app (is01.one (Nat.mod_lt _ (by decide)))) (by omega) (by omega) (by rw [List.length_append, List.length_singleton]; omega), List.append_assoc]
    rfl
theorem m_putSym (hF : 20000 ≤ F) (hS : Sh A) (hW : WDt A 0 fL1) {sy : Nat} (hs : sy < 288) (h01 : is01 T) (hT : T.length + 9 ≤ 2500) : f_Model_putWord F 39 (nI sy) (qw J A s Q T) = some ((), qw J A s Q (T ++ sb sy)) := by
  have hl : (A 44)[sy]? = some (nI (fL1.getD sy 0)) := by have := hW.1 sy (by rw [fL1_len]; exact hs); rw [Nat.zero_add] at this; exact this
  have hc : fL1.getD sy 0 = cLn sy := fL1_g hs
  have hpos : 0 < cLn sy ∧ cLn sy ≤ 9 := by unfold cLn; split; omega; split; omega; split <;> omega
  have hw : (A 45)[sy]? = some (nI (cWd sy)) := by
    have := hW.2 sy (by rw [fL1_len]; exact hs) (by rw [hc]; exact hpos.1)
    rw [Nat.zero_add, kW_fix1 hs] at this
    exact this
  have hwd : cWd sy < 2 ^ 20 := by unfold cWd; split; omega; split; omega; split <;> omega
  unfold f_Model_putWord b_Model_putWord_0
  rw [show getR (qw J A s Q T) 39 9 12 = some 44 from rfl, Option.bind_some, show aget (qw J A s Q T) 44 (nI sy) = some (nI (cLn sy)) from ag_ (by decide) (by omega) (by rw [ud_n (by decide), hl, hc]), Option.bind_some]
  exact m_putWord_l hS (by omega) (by omega) hw (cLn sy) F T h01 (by omega) (by omega) (by omega)
theorem m_putDis (hF : 20000 ≤ F) (hS : Sh A) (hW : WDt A 288 fL2) {t : Nat} (ht : t < 32) (h01 : is01 T) (hT : T.length + 5 ≤ 2500) : f_Model_putWord F 39 (nI (288 + t)) (qw J A s Q T) = some ((), qw J A s Q (T ++ wb t 5)) := by
  have hl : (A 44)[288 + t]? = some (nI 5) := by rw [hW.1 t ht, fL2_g ht]
  have hw : (A 45)[288 + t]? = some (nI t) := by rw [hW.2 t ht (by rw [fL2_g ht]; decide), kW_fix2 ht]
  unfold f_Model_putWord b_Model_putWord_0
  rw [show getR (qw J A s Q T) 39 9 12 = some 44 from rfl, Option.bind_some, show aget (qw J A s Q T) 44 (nI (288 + t)) = some (nI 5) from ag_ (by decide) (by omega) (by rw [ud_n (by decide)]; exact hl), Option.bind_some]
  exact m_putWord_l hS (by omega) (by omega) hw 5 F T h01 (by omega) (by decide) hT
theorem m_len_l {n : Nat} (hn : n < 2 ^ 20) {w : zW} : ∀ (f m sy : Nat), f < m → 284 ≤ sy + f → 257 ≤ sy → sy ≤ 284 → l_Model_putLength_19 F m 39 (nI n) (nI sy) w = b_Model_putLength_42 F 39 (nI n) (nI (sM n f sy)) w := by
  intro f
  induction f with
  | zero =>
    intro m sy hm h1 h2 h3
    obtain ⟨m, rfl⟩ : ∃ q, m = q + 1 := ⟨m - 1, by omega⟩
    show b_Model_putLength_19 F (l_Model_putLength_19 F m) 39 (nI n) (nI sy) w = _
    unfold b_Model_putLength_19
    rw [if_pos (show (284 : Int32) ≤ nI sy from nI_le (a := 284) (by omega) (by omega))]
    rfl
  | succ f ih =>
    intro m sy hm h1 h2 h3
    obtain ⟨m, rfl⟩ : ∃ q, m = q + 1 := ⟨m - 1, by omega⟩
    show b_Model_putLength_19 F (l_Model_putLength_19 F m) 39 (nI n) (nI sy) w = _
    unfold b_Model_putLength_19 sM
    by_cases c1 : 284 ≤ sy
    · rw [if_pos (show (284 : Int32) ≤ nI sy from nI_le (a := 284) c1 (by omega)), if_pos (Or.inl c1)]
    · have hle := lL_le (show sy + 1 ≤ 285 by omega)
      rw [if_neg (show ¬ (284 : Int32) ≤ nI sy from nI_ge (b := 284) (by omega) (by decide)), nI_1, m_lL (by omega) (by omega), Option.bind_some]
      simp only []
      by_cases c2 : n < lL (sy + 1)
      · rw [if_pos (nI_lt c2 (by omega)), if_pos (Or.inr c2)]
      · rw [if_neg (nI_nlt (by omega) (by omega)), if_neg (by rintro (q | q); exact c1 q; exact c2 q)]
        exact ih m (sy + 1) (by omega) (by omega) (by omega) (by omega)
theorem m_putLength (hF : 20000 ≤ F) (hS : Sh A) (hW : WDt A 0 fL1) {n : Nat} (h3 : 3 ≤ n) (hn : n ≤ 200) (h01 : is01 T) (hT : T.length + 15 ≤ 2500) : f_Model_putLength F 39 (nI n) (qw J A s Q T) = some ((), qw J A s Q (T ++ lnB n)) := by
  obtain ⟨q1, q2, q3, q4, q5, q6⟩ := len_eq ⟨n, by omega⟩ h3
  simp only at q1 q2 q3 q4
  have hx := xL_le (show sM n 28 257 ≤ 285 by omega)
  have hl9 := sb_len (sM n 28 257)
  unfold f_Model_putLength b_Model_putLength_0
  rw [if_neg (show ¬ nI n = (258 : Int32) from fun z => by have := (nI_eq (b := 258) (by omega) (by decide)).mp z; omega), show l_Model_putLength_19 F F 39 (nI n) 257 (qw J A s Q T) = _ from m_len_l (by omega) 28 F 257 (by omega) (by decide) (by decide) (by decide)]
  unfold b_Model_putLength_42
  rw [qw_o, m_putSym hF hS hW (by omega) h01 (by omega), Option.bind_some]
  simp only []
  rw [m_lL q3 (by omega), Option.bind_some]
  simp only []
  rw [m_xL q3 (by omega), Option.bind_some]
  simp only [qw_o]
  rw [pk_sub q2, m_putLow hF hS (by omega) (by omega) (h01.app (sb_01 _)) (by rw [List.length_append]; omega), Option.bind_some, List.append_assoc, q1]
theorem m_dis_l {d : Nat} (hd : d < 2 ^ 20) {w : zW} : ∀ (f m t : Nat), f < m → 29 ≤ t + f → t ≤ 29 → l_Model_putDistance_2 F m 39 (nI d) (nI t) w = b_Model_putDistance_24 F 39 (nI d) (nI (tM d f t)) w := by
  intro f
  induction f with
  | zero =>
    intro m t hm h1 h2
    obtain ⟨m, rfl⟩ : ∃ q, m = q + 1 := ⟨m - 1, by omega⟩
    show b_Model_putDistance_2 F (l_Model_putDistance_2 F m) 39 (nI d) (nI t) w = _
    unfold b_Model_putDistance_2
    rw [if_pos (show (29 : Int32) ≤ nI t from nI_le (a := 29) (by omega) (by omega))]
    rfl
  | succ f ih =>
    intro m t hm h1 h2
    obtain ⟨m, rfl⟩ : ∃ q, m = q + 1 := ⟨m - 1, by omega⟩
    show b_Model_putDistance_2 F (l_Model_putDistance_2 F m) 39 (nI d) (nI t) w = _
    unfold b_Model_putDistance_2 tM
    by_cases c1 : 29 ≤ t
    · rw [if_pos (show (29 : Int32) ≤ nI t from nI_le (a := 29) c1 (by omega)), if_pos (Or.inl c1)]
    · have hle := lD_le (show t + 1 ≤ 29 by omega)
      rw [if_neg (show ¬ (29 : Int32) ≤ nI t from nI_ge (b := 29) (by omega) (by decide)), nI_1, m_lD (by omega), Option.bind_some]
      simp only []
      by_cases c2 : d < lD (t + 1)
      · rw [if_pos (nI_lt c2 (by omega)), if_pos (Or.inr c2)]
      · rw [if_neg (nI_nlt (by omega) (by omega)), if_neg (by rintro (q | q); exact c1 q; exact c2 q)]
        exact ih m (t + 1) (by omega) (by omega) (by omega)
theorem m_putDistance (hF : 20000 ≤ F) (hS : Sh A) (hW : WDt A 288 fL2) {d : Nat} (h1 : 1 ≤ d) (hd : d ≤ 200) (h01 : is01 T) (hT : T.length + 20 ≤ 2500) : f_Model_putDistance F 39 (nI d) (qw J A s Q T) = some ((), qw J A s Q (T ++ dsB d)) := by
  obtain ⟨q1, q2, q3, q4, q5⟩ := dis_eq ⟨d, by omega⟩ h1
  simp only at q1 q2 q3
  have hx := xD_le q3
  unfold f_Model_putDistance b_Model_putDistance_0
  rw [show l_Model_putDistance_2 F F 39 (nI d) 0 (qw J A s Q T) = _ from m_dis_l (by omega) 30 F 0 (by omega) (by decide) (by decide)]
  unfold b_Model_putDistance_24
  rw [qw_o, show (288 : Int32) + nI (tM d 30 0) = nI (288 + tM d 30 0) from nI_add 288 _, m_putDis hF hS hW (by omega) h01 (by omega), Option.bind_some]
  simp only []
  rw [m_lD q3, Option.bind_some]
  simp only []
  rw [m_xD q3, Option.bind_some]
  simp only [qw_o]
  rw [pk_sub q2, m_putLow hF hS (by omega) (by omega) (h01.app (wb_01 _ _)) (by rw [List.length_append, wb_len]; omega), Option.bind_some, List.append_assoc, q1]
theorem m_alike_l {i d : Nat} {w : zW} (hg : getR w 39 9 2 = some 40) (h1 : getI w 39 9 1 = some (nI B.length)) (ha : ∀ k, k < B.length → aget w 40 (nI k) = some (B.getD k 0)) (hd : d ≤ i) (hB : B.length ≤ 200) : ∀ (f m n : Nat), f < m → i + n ≤ B.length → B.length < i + n + f → l_Model_alike_2 F m 39 (nI (i - d)) (nI i) (nI n) w = some (nI (smL B i d f n), w) := by
  intro f
  induction f with
  | zero => intro m n _ h1 h2; omega
  | succ f ih =>
    intro m n hm h3 h2
    obtain ⟨m, rfl⟩ : ∃ q, m = q + 1 := ⟨m - 1, by omega⟩
    show b_Model_alike_2 F (l_Model_alike_2 F m) 39 (nI (i - d)) (nI i) (nI n) w = _
    unfold b_Model_alike_2 b_Model_alike_44 smL
    rw [if_neg (show ¬ (258 : Int32) ≤ nI n from nI_ge (b := 258) (by omega) (by decide)), h1, Option.bind_some, nI_add]
    by_cases c1 : i + n < B.length
    · rw [if_neg (nI_ge c1 (by omega)), hg, Option.bind_some, nI_add, ha _ (by omega), Option.bind_some, Option.bind_some, ha _ c1, Option.bind_some, show i - d + n = i + n - d by omega]
      by_cases c2 : B.getD (i + n) 0 = B.getD (i + n - d) 0
      · rw [if_pos c2.symm, if_pos ⟨by omega, c1, c2⟩, nI_1]
        exact ih m (n + 1) (by omega) (by omega) (by omega)
      · rw [if_neg (fun q => c2 q.symm), if_neg (fun q => c2 q.2.2)]
    · rw [if_pos (nI_le (by omega) (by omega)), if_neg (fun q => c1 q.2.1)]
theorem m_alike (hF : 20000 ≤ F) (h1 : J 39 1 = nI B.length) (h2 : (A 40).take B.length = B) (hB : B.length ≤ 200) {i d : Nat} (hi : i < B.length) (hd : d ≤ i) : f_Model_alike F 39 (nI (i - d)) (nI i) (qw J A s Q T) = some (nI (smS B i d), qw J A s Q T) := by
  refine m_alike_l rfl ?_ ?_ hd hB 201 F 0 (by omega) (by omega) (by omega)
  · show some (J 39 1) = _
    rw [h1]
  · intro k hk
    rw [← gD_e hk]
    exact ag_ (by decide) (by omega) (by rw [ud_n (by decide)]; exact take_get h2 hk)
/-- one step of the reference's packing -/
theorem m_pk_37 (hF : 20000 ≤ F) (hS : Sh A) (hW1 : WDt A 0 fL1) (hW2 : WDt A 288 fL2) (h1 : J 39 1 = nI B.length) (h2 : (A 40).take B.length = B) (hB : B.length ≤ 200) (hb : ∀ b ∈ B, isB b) {i : Nat} (hi : i < B.length) (h01 : is01 T) (hT : T.length ≤ 2000) {K22 : Nat → Int32 → zW → Option (Unit × zW)} : ∀ (m d : Nat), d ≤ i → i - d + 1 < m → l_Model_packBuffer_37 F K22 m 39 (nI i) (nI (bsS B i d).1) (nI (bsS B i d).2) (nI (d + 1)) (qw J A s Q T) = K22 39 (nI (i + stN B i)) (qw J A s Q (T ++ stB B i)) := by
  intro m
  induction m with
  | zero => intro d _ h; omega
  | succ m ih =>
    intro d hd hm
    show b_Model_packBuffer_37 F K22 (l_Model_packBuffer_37 F K22 m) 39 (nI i) (nI (bsS B i d).1) (nI (bsS B i d).2) (nI (d + 1)) (qw J A s Q T) = _
    unfold b_Model_packBuffer_37 b_Model_packBuffer_121 b_Model_packBuffer_66 b_Model_packBuffer_79
    have hbd := bsS_le B i d
    by_cases hlt : d < i
    · have hs := smS_le B i (d + 1)
      rw [if_neg (nI_nlt (by omega) (by omega)), qw_o, pk_sub (by omega), m_alike hF h1 h2 hB hi (by omega), Option.bind_some]
      simp only []
      by_cases c : (bsS B i d).1 < smS B i (d + 1)
      · have e : bsS B i (d + 1) = (smS B i (d + 1), d + 1) := by show (if _ then _ else _) = _; rw [if_pos c]
        have := ih (d + 1) (by omega) (by omega)
        rw [e] at this
        rw [if_neg (nI_ge c (by omega)), if_neg (nI_ge c (by omega)), nI_1]
        exact this
      · have e : bsS B i (d + 1) = bsS B i d := by show (if _ then _ else _) = _; rw [if_neg c]
        have := ih (d + 1) (by omega) (by omega)
        rw [e] at this
        rw [if_pos (nI_le (by omega) (by omega)), if_pos (nI_le (by omega) (by omega)), nI_1]
        exact this
    · have ed : d = i := by omega
      subst ed
      rw [if_pos (nI_lt (by omega) (by omega))]
      unfold stB stN
      by_cases c : (bsS B d d).1 < 3
      · have hbi := (getB hb hi).1
        have hgb : B.getD d 0 = nI (bN (B.getD d 0)) := by
          have := (getB hb hi).2
          rw [List.getElem?_eq_getElem hi, gD_e hi] at this
          exact Option.some.inj this
        have ha : aget (qw J A s Q T) 40 (nI d) = some (nI (bN (B.getD d 0))) := by
          rw [← hgb, ← gD_e hi]
          exact ag_ (by decide) (by omega) (by rw [ud_n (by decide)]; exact take_get h2 hi)
        rw [if_neg (show ¬ (3 : Int32) ≤ nI (bsS B d d).1 from nI_ge (b := 3) c (by decide)), if_pos c, if_pos c, show getR (qw J A s Q T) 39 9 2 = some 40 from rfl, Option.bind_some, ha, Option.bind_some, qw_o, m_putSym hF hS hW1 (by omega) h01 (by omega), Option.bind_some, nI_1]
      · have d1 := hbd.2.2 (by omega)
        have l13 : (lnB (bsS B d d).1).length ≤ 13 := (len_eq ⟨(bsS B d d).1, by omega⟩ (by show 3 ≤ (bsS B d d).1; omega)).2.2.2.2.1
        rw [if_pos (show (3 : Int32) ≤ nI (bsS B d d).1 from nI_le (a := 3) (by omega) (by omega)), if_neg c, if_neg c, qw_o, m_putLength hF hS hW1 (by omega) (by omega) h01 (by omega), Option.bind_some]
        simp only [qw_o]
        rw [m_putDistance hF hS hW2 (by omega) (by omega) (h01.app (lnB_01 _)) (by rw [List.length_append]; omega), Option.bind_some, nI_add, List.append_assoc]
theorem m_pk_l (hF : 20000 ≤ F) (hS : Sh A) (hW1 : WDt A 0 fL1) (hW2 : WDt A 288 fL2) (h1 : J 39 1 = nI B.length) (h2 : (A 40).take B.length = B) (hB : B.length ≤ 200) (hb : ∀ b ∈ B, isB b) : ∀ (m q i : Nat) (T : List Nat), is01 T → T.length ≤ 3 + 9 * i → i ≤ B.length → B.length - i < m → B.length - i < q → l_Model_packBuffer_22 F q 39 (nI i) (qw J A s Q T) = some ((), qw J A s Q (T ++ bdS B m i)) := by
  intro m
  induction m with
  | zero => intro q i T _ _ _ h; omega
  | succ m ih =>
    intro q i T h01 hT hi hm hq
    obtain ⟨q, rfl⟩ : ∃ q', q = q' + 1 := ⟨q - 1, by omega⟩
    show b_Model_packBuffer_22 F (l_Model_packBuffer_22 F q) 39 (nI i) (qw J A s Q T) = _
    unfold b_Model_packBuffer_22 bdS
    rw [show getI (qw J A s Q T) 39 9 1 = some (J 39 1) from rfl, Option.bind_some, h1]
    by_cases hlt : i < B.length
    · have hst := stB_len hB hlt
      rw [if_neg (nI_ge hlt (by omega)), if_pos hlt, show l_Model_packBuffer_37 F (l_Model_packBuffer_22 F q) F 39 (nI i) 0 0 1 (qw J A s Q T) = _ from m_pk_37 hF hS hW1 hW2 h1 h2 hB hb hlt h01 (by omega) F 0 (Nat.zero_le _) (by omega), ih q (i + stN B i) _ (h01.app (stB_01 _ _)) (by rw [List.length_append]; omega) hst.2.2 (by omega) (by omega), List.append_assoc]
    · have hsym := m_putSym (F := F) (J := J) (s := s) (Q := Q) (sy := 256) hF hS hW1 (by decide) h01 (by omega)
      rw [if_pos (nI_le (by omega) (by omega)), if_neg hlt, qw_o, show f_Model_putWord F 39 256 (qw J A s Q T) = _ from hsym, Option.bind_some]
/-- packBuffer -/
theorem m_packBuffer (hF : 20000 ≤ F) (hS : Sh A) (h1 : J 39 1 = nI B.length) (h2 : (A 40).take B.length = B) (hB : B.length ≤ 200) (hb : ∀ b ∈ B, isB b) : ∃ J' A', f_Model_packBuffer F 39 (YW J A s Q) = some ((), YW J' A' s Q) ∧ mfr J A J' A' ∧ J' 39 6 = nI (pkS B).length ∧ (A' 42).take (pkS B).length = pkS B := by
  obtain ⟨A2, e2, f2, w1, w2⟩ := m_fix (F := F) (J := pj (pj J 39 6 0) 39 10 0) (A := A) (s := s) (Q := Q) hF hS
  have h42 : (A2 42).length = 400 := f2.1 42
  have hpl := pkS_len hB
  have mf1 : mfr J A (pj (pj (pj J 39 6 0) 39 10 0) 39 11 0) A2 := ((((mfr.rf hS).pj (Or.inl rfl)).pj (Or.inr (Or.inl rfl))).pj (Or.inr (Or.inr rfl))).tr f2.fr
  have e3 : YW (pj (pj (pj J 39 6 0) 39 10 0) 39 11 0) A2 s Q = qw (pj J 39 11 0) A2 s Q [] := by
    unfold qw
    show _ = YW (pj (pj (pj J 39 11 0) 39 6 0) 39 10 0) (ud A2 42 (wr (A2 42) 0 [])) s Q
    rw [wr_nil, ud_id rfl, pj_comm (o := 39) (k := 10) (p := 39) (q := 11) (Or.inr (by decide)), pj_comm (o := 39) (k := 6) (p := 39) (q := 11) (Or.inr (by decide))]
  have b1 := m_putLow (F := F) (J := pj J 39 11 0) (A := A2) (s := s) (Q := Q) (T := []) (v := 3) (n := 3) hF f2.1 (by decide) (by decide) (fun b hb => by cases hb) (by decide)
  have t1 : ([] : List Nat) ++ lo 3 0 3 = [1, 1, 0] := by decide
  rw [t1] at b1
  have e4 := m_pk_l (F := F) (J := pj J 39 11 0) (s := s) (Q := Q) hF f2.1 w1 w2 (by rw [pj_k (by decide)]; exact h1) (by rw [f2.2 40 (by omega)]; exact h2) hB hb 201 F 0 [1, 1, 0] (fun b hb => by simp at hb; omega) (by decide) (Nat.zero_le _) (by omega) (by omega)
  have ep : [1, 1, 0] ++ bdS B 201 0 = pkT B := rfl
  rw [ep, show (nI 0 : Int32) = 0 from rfl] at e4
  have hlen : (byL (pkT B) (((pkT B).length + 7) / 8)).length = (pkS B).length := rfl
  refine ⟨pj (pj (pj J 39 11 0) 39 6 (nI (((pkT B).length + 7) / 8))) 39 10 (nI (pkT B).length), ud A2 42 (wr (A2 42) 0 (byL (pkT B) (((pkT B).length + 7) / 8))), ?_, ?_, ?_, ?_⟩
  · unfold f_Model_packBuffer b_Model_packBuffer_0
    simp only [wp_M, wo_M, Option.bind_some]
    rw [e2, Option.bind_some]
    simp only []
    rw [e3, qw_o, show f_Model_putLow F 39 3 3 (qw (pj J 39 11 0) A2 s Q []) = _ from b1, Option.bind_some]
    exact e4
  · exact (((((mfr.rf hS).pj (Or.inr (Or.inr rfl))).tr f2.fr).pj (Or.inl rfl)).pj (Or.inr (Or.inl rfl))).ud (Or.inl rfl) (wr_len (by omega))
  · rw [pj_k (by decide), pj_s, ← hlen, byL_len]
  · rw [ud_s]
    exact wr0_take (by omega)
end Qw
