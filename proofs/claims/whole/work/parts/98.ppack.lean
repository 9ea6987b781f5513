/-! Packing, by the class. -/
def pw (J : yJ) (A : yA) (s : Nat) (Q : zW) (T : List Nat) : zW := YW (pj (pj (pj (pj J 5 1 (nI (T.length / 8))) 5 2 0) 9 1 (nI (byS T (T.length / 8)))) 9 2 (nI (T.length % 8))) (ud A 6 (wr (A 6) 0 (byL T (T.length / 8)))) s Q
section Pw
variable {J : yJ} {A : yA} {s : Nat} {Q : zW} {F : Nat} {T : List Nat} {B : List Int32}
theorem r56 : isR 5 6 := Or.inr (Or.inr (Or.inl ⟨rfl, rfl⟩))
theorem r12 : isR 1 2 := Or.inl ⟨rfl, rfl⟩
theorem pw_o {α : Type} (X : Option α) : ((zobj (pw J A s Q T) 9 3).bind fun _ => X) = X := rfl
theorem pw_S (hS : Sh A) (h : T.length / 8 ≤ 227) : Sh (ud A 6 (wr (A 6) 0 (byL T (T.length / 8)))) := by
  have h6 : (A 6).length = 227 := hS 6
  exact hS.ud (wr_len (by rw [byL_len]; omega))
/-- one bit -/
theorem pw_bit (hS : Sh A) (h01 : is01 T) {b : Nat} (hb : b < 2) (hT : T.length < 1816) {α : Type} {K : zW → Option α} : ((getI (pw J A s Q T) 9 3 1).bind fun x9 => (getI (pw J A s Q T) 9 3 2).bind fun x18 => (putI (pw J A s Q T) 9 3 1 (x9 ||| (nI b <<< (x18 &&& 31)))).bind fun w23 => (getI w23 9 3 2).bind fun x28 => (putI w23 9 3 2 (x28 + (1 : Int32))).bind fun w33 => (getI w33 9 3 2).bind fun x37 => if x37 = (8 : Int32) then ((getR w33 9 3 0).bind fun x46 => (getI w33 9 3 1).bind fun x50 => (zobj w33 x46 0).bind fun _ => (f_Row_append F x46 x50 w33).bind fun r53 => (putI r53.2 9 3 1 (0 : Int32)).bind fun w58 => (putI w58 9 3 2 (0 : Int32)).bind fun w63 => K w63) else K w33) = K (pw J A s Q (T ++ [b])) := by
  have hr : T.length % 8 < 8 := Nat.mod_lt _ (by decide)
  have h6 : (A 6).length = 227 := hS 6
  have hlow := byS_low h01
  have hp : 2 ^ (T.length % 8) ≤ 2 ^ 7 := Nat.pow_le_pow_right (by decide) (by omega)
  have hbp : b * 2 ^ (T.length % 8) ≤ 1 * 2 ^ (T.length % 8) := Nat.mul_le_mul_right _ (by omega)
  have ebit : nI (byS T (T.length / 8)) ||| (nI b <<< (nI (T.length % 8) &&& 31)) = nI (byS (T ++ [b]) (T.length / 8)) := by
    rw [shlD (by omega) (by omega), orD hlow (by omega), byS_new]
  have hl : (T ++ [b]).length = T.length + 1 := by rw [List.length_append, List.length_singleton]
  unfold pw
  simp only [wg_P, wp_P, Option.bind_some]
  have g1 : ∀ x y : Int32, pj (pj (pj (pj J 5 1 (nI (T.length / 8))) 5 2 0) 9 1 x) 9 2 y 9 1 = x := fun x y => by rw [pj_k (by decide), pj_s]
  have g2 : ∀ x y z : Int32, pj (pj (pj (pj (pj J 5 1 (nI (T.length / 8))) 5 2 0) 9 1 x) 9 2 y) 9 1 z 9 2 = y := fun x y z => by rw [pj_k (by decide), pj_s]
  have g0 : pj (pj (pj (pj J 5 1 (nI (T.length / 8))) 5 2 0) 9 1 (nI (byS T (T.length / 8)))) 9 2 (nI (T.length % 8)) 9 2 = nI (T.length % 8) := pj_s
  rw [g1, g0, ebit, g2, nI_1, pj_comm (o := 9) (k := 2) (p := 9) (q := 1) (Or.inr (by decide)), pj_pj, pj_pj, pj_s]
  by_cases c : T.length % 8 = 7
  · rw [if_pos (show nI (T.length % 8 + 1) = (8 : Int32) by rw [c]; rfl), R_o r56, Option.bind_some, g1, W_append (n := T.length / 8) r56 (pw_S hS (by omega)) (by rw [pj_o (by decide), pj_o (by decide), pj_k (by decide), pj_s]) (show T.length / 8 < 227 by omega), Option.bind_some]
    simp only [wp_P, Option.bind_some]
    have e1 : (T ++ [b]).length / 8 = T.length / 8 + 1 := by rw [hl]; omega
    have e2 : (T ++ [b]).length % 8 = 0 := by rw [hl]; omega
    have e3 : byS (T ++ [b]) (T.length / 8 + 1) = 0 := byS_end (by rw [hl]; omega)
    rw [e1, e2, e3, byL_succ, byL_old (by omega), ud_s, ud_ud, wr_set (by rw [wr_len (by rw [byL_len]; omega)]; omega)]
    have e4 := wr_wr (xs := A 6) (n := 0) (X := byL T (T.length / 8)) (Y := [nI (byS (T ++ [b]) (T.length / 8))]) (by rw [byL_len, List.length_singleton]; omega)
    rw [byL_len, Nat.zero_add] at e4
    rw [e4]
    congr 2
    rw [pj_comm (o := 9) (k := 2) (p := 5) (q := 1) (Or.inl (by decide)), pj_comm (o := 9) (k := 1) (p := 5) (q := 1) (Or.inl (by decide)), pj_comm (o := 5) (k := 2) (p := 5) (q := 1) (Or.inr (by decide)), pj_pj, pj_comm (o := 9) (k := 2) (p := 9) (q := 1) (Or.inr (by decide)), pj_pj, pj_pj]
    rfl
  · rw [if_neg (show ¬ nI (T.length % 8 + 1) = (8 : Int32) from fun z => by have := (nI_eq (b := 8) (by omega) (by decide)).mp z; omega)]
    have e1 : (T ++ [b]).length / 8 = T.length / 8 := by rw [hl]; omega
    have e2 : (T ++ [b]).length % 8 = T.length % 8 + 1 := by rw [hl]; omega
    rw [e1, e2, byL_old (by omega)]
theorem pw_bits_l (hS : Sh A) {v n : Nat} (hv : v < 2 ^ 31) (hn : n ≤ 20) : ∀ (m k : Nat) (T : List Nat), is01 T → k ≤ n → n - k < m → T.length + (n - k) ≤ 1816 → l_Packer_writeBits_2 F m 9 (nI v) (nI n) (nI k) (pw J A s Q T) = some ((), pw J A s Q (T ++ lo v k n)) := by
  intro m
  induction m with
  | zero => intro k T _ _ h; omega
  | succ m ih =>
    intro k T h01 hk hm hT
    show b_Packer_writeBits_2 F (l_Packer_writeBits_2 F m) 9 (nI v) (nI n) (nI k) (pw J A s Q T) = _
    unfold b_Packer_writeBits_2 b_Packer_writeBits_66
    by_cases hlt : k < n
    · have eb : (nI v >>> (nI k &&& 31)) &&& (1 : Int32) = nI (v / 2 ^ k % 2) := by
        rw [shrD (by omega) hv, pk_andN (m := (1 : Int32)) (by have := Nat.div_le_self v (2 ^ k); omega) 1 (by decide)]
      rw [if_neg (nI_ge hlt (by omega)), eb, pw_bit (b := v / 2 ^ k % 2) (K := fun w => l_Packer_writeBits_2 F m 9 (nI v) (nI n) (nI k + 1) w) hS h01 (Nat.mod_lt _ (by decide)) (by omega), nI_1, ih (k + 1) _ (h01.app (is01.one (Nat.mod_lt _ (by decide)))) (by omega) (by omega) (by rw [List.length_append, List.length_singleton]; omega), lo_cons hlt, List.append_assoc]
      rfl
    · rw [if_pos (nI_le (by omega) (by omega)), lo_nil (by omega), List.append_nil]
theorem pw_bits (hF : 20000 ≤ F) (hS : Sh A) {v n : Nat} (hv : v < 2 ^ 31) (hn : n ≤ 20) (h01 : is01 T) (hT : T.length + n ≤ 1816) : f_Packer_writeBits F 9 (nI v) (nI n) (pw J A s Q T) = some ((), pw J A s Q (T ++ lo v 0 n)) := pw_bits_l hS hv hn F 0 T h01 (Nat.zero_le _) (by omega) (by omega)
theorem pw_word_l (hF : 20000 ≤ F) (hS : Sh A) {v : Nat} (hv : v < 2 ^ 31) : ∀ (n m : Nat) (T : List Nat), is01 T → n < m → n ≤ 20 → T.length + n ≤ 1816 → l_Packer_writeWord_4 F m 9 (nI v) (nI n - 1) (pw J A s Q T) = some ((), pw J A s Q (T ++ wb v n)) := by
  intro n
  induction n with
  | zero =>
    intro m T h01 hm _ _
    obtain ⟨m, rfl⟩ : ∃ q, m = q + 1 := ⟨m - 1, by omega⟩
    show b_Packer_writeWord_4 F (l_Packer_writeWord_4 F m) 9 (nI v) (nI 0 - 1) (pw J A s Q T) = _
    unfold b_Packer_writeWord_4
    rw [if_pos (by decide)]
    show _ = some ((), pw J A s Q (T ++ []))
    rw [List.append_nil]
  | succ n ih =>
    intro m T h01 hm hn hT
    obtain ⟨m, rfl⟩ : ∃ q, m = q + 1 := ⟨m - 1, by omega⟩
    show b_Packer_writeWord_4 F (l_Packer_writeWord_4 F m) 9 (nI v) (nI (n + 1) - 1) (pw J A s Q T) = _
    unfold b_Packer_writeWord_4
    have hd : v / 2 ^ n < 2 ^ 31 := Nat.lt_of_le_of_lt (Nat.div_le_self _ _) hv
    have e1 := pw_bits (F := F) (J := J) (A := A) (s := s) (Q := Q) (T := T) (v := v / 2 ^ n) (n := 1) hF hS hd (by decide) h01 (by omega)
    have e2 : lo (v / 2 ^ n) 0 1 = [v / 2 ^ n % 2] := by
      rw [lo_cons (by decide), lo_nil (by decide), Nat.pow_zero, Nat.div_one]
    rw [nI_pred, if_neg (nI_pos (by omega)), pw_o, shrD (by omega) hv, show f_Packer_writeBits F 9 (nI (v / 2 ^ n)) 1 (pw J A s Q T) = _ from e1, Option.bind_some, e2, ← Int32.sub_eq_add_neg]
    show l_Packer_writeWord_4 F m 9 (nI v) (nI n - 1) (pw J A s Q (T ++ [v / 2 ^ n % 2])) = _
    rw [ih m _ (h01.app (is01.one (Nat.mod_lt _ (by decide)))) (by omega) (by omega) (by rw [List.length_append, List.length_singleton]; omega), List.append_assoc]
    rfl
theorem pw_word (hF : 20000 ≤ F) (hS : Sh A) {v n : Nat} (hv : v < 2 ^ 31) (hn : n ≤ 20) (h01 : is01 T) (hT : T.length + n ≤ 1816) : f_Packer_writeWord F 9 (nI v) (nI n) (pw J A s Q T) = some ((), pw J A s Q (T ++ wb v n)) := pw_word_l hF hS hv n F T h01 (by omega) hn hT
theorem pw_sym (hF : 20000 ≤ F) (hS : Sh A) {sy : Nat} (hs : sy < 288) (h01 : is01 T) (hT : T.length + 9 ≤ 1816) : f_Packer_writeSymbol F 9 (nI sy) (pw J A s Q T) = some ((), pw J A s Q (T ++ sb sy)) := by
  have w8 : ∀ v, v < 2 ^ 31 → f_Packer_writeWord F 9 (nI v) 8 (pw J A s Q T) = some ((), pw J A s Q (T ++ wb v 8)) := fun v hv => pw_word (n := 8) hF hS hv (by decide) h01 (by omega)
  have w9 : ∀ v, v < 2 ^ 31 → f_Packer_writeWord F 9 (nI v) 9 (pw J A s Q T) = some ((), pw J A s Q (T ++ wb v 9)) := fun v hv => pw_word (n := 9) hF hS hv (by decide) h01 (by omega)
  have w7 : ∀ v, v < 2 ^ 31 → f_Packer_writeWord F 9 (nI v) 7 (pw J A s Q T) = some ((), pw J A s Q (T ++ wb v 7)) := fun v hv => pw_word (n := 7) hF hS hv (by decide) h01 (by omega)
  unfold f_Packer_writeSymbol b_Packer_writeSymbol_0 sb cWd cLn
  by_cases c1 : sy < 144
  · rw [if_neg (show ¬ (144 : Int32) ≤ nI sy from nI_ge (b := 144) c1 (by decide)), if_pos c1, if_pos c1, pw_o, show (48 : Int32) + nI sy = nI (48 + sy) from nI_add 48 sy, w8 _ (by omega), Option.bind_some]
  · rw [if_pos (show (144 : Int32) ≤ nI sy from nI_le (a := 144) (by omega) (by omega)), if_neg c1, if_neg c1]
    by_cases c2 : sy < 256
    · rw [if_neg (show ¬ (256 : Int32) ≤ nI sy from nI_ge (b := 256) c2 (by decide)), if_pos c2, if_pos c2, pw_o, show (400 : Int32) + nI sy = nI (400 + sy) from nI_add 400 sy, show (144 : Int32) = nI 144 from rfl, pk_sub (by omega), w9 _ (by omega), Option.bind_some]
    · rw [if_pos (show (256 : Int32) ≤ nI sy from nI_le (a := 256) (by omega) (by omega)), if_neg c2, if_neg c2]
      by_cases c3 : sy < 280
      · rw [if_neg (show ¬ (280 : Int32) ≤ nI sy from nI_ge (b := 280) c3 (by decide)), if_pos c3, if_pos c3, pw_o, show (256 : Int32) = nI 256 from rfl, pk_sub (by omega), w7 _ (by omega), Option.bind_some]
      · rw [if_pos (show (280 : Int32) ≤ nI sy from nI_le (a := 280) (by omega) (by omega)), if_neg c3, if_neg c3, pw_o, show (192 : Int32) + nI sy = nI (192 + sy) from nI_add 192 sy, show (280 : Int32) = nI 280 from rfl, pk_sub (by omega), w8 _ (by omega), Option.bind_some]
theorem pw_len_l {v : Nat} (hv : v < 2 ^ 31) {w : zW} : ∀ (f m e : Nat), f < m → 5 ≤ e + f → e ≤ 20 → l_Packer_writeLength_37 F m 9 (nI v) (nI e) w = b_Packer_writeLength_56 F 9 (nI v) (nI (eL v f e)) w := by
  intro f
  induction f with
  | zero =>
    intro m e hm he he2
    obtain ⟨m, rfl⟩ : ∃ q, m = q + 1 := ⟨m - 1, by omega⟩
    show b_Packer_writeLength_37 F (l_Packer_writeLength_37 F m) 9 (nI v) (nI e) w = _
    unfold b_Packer_writeLength_37
    rw [if_pos (show (5 : Int32) ≤ nI e from nI_le (a := 5) (by omega) (by omega))]
    rfl
  | succ f ih =>
    intro m e hm he he2
    obtain ⟨m, rfl⟩ : ∃ q, m = q + 1 := ⟨m - 1, by omega⟩
    show b_Packer_writeLength_37 F (l_Packer_writeLength_37 F m) 9 (nI v) (nI e) w = _
    unfold b_Packer_writeLength_37 eL
    have hd := Nat.div_le_self v (2 ^ e)
    by_cases c1 : 5 ≤ e
    · rw [if_pos (show (5 : Int32) ≤ nI e from nI_le (a := 5) c1 (by omega)), if_pos (Or.inl c1)]
    · rw [if_neg (show ¬ (5 : Int32) ≤ nI e from nI_ge (b := 5) (by omega) (by decide)), shrD (by omega) hv]
      by_cases c2 : v / 2 ^ e ≤ 7
      · rw [if_pos (show nI (v / 2 ^ e) ≤ (7 : Int32) from nI_le (b := 7) c2 (by decide)), if_pos (Or.inr c2)]
      · rw [if_neg (show ¬ nI (v / 2 ^ e) ≤ (7 : Int32) from nI_ge (a := 7) (by omega) (by omega)), if_neg (by rintro (q | q); exact c1 q; exact c2 q), nI_1]
        exact ih m (e + 1) (by omega) (by omega) (by omega)
theorem pw_length (hF : 20000 ≤ F) (hS : Sh A) {n : Nat} (h3 : 3 ≤ n) (hn : n ≤ 200) (h01 : is01 T) (hT : T.length + 14 ≤ 1816) : f_Packer_writeLength F 9 (nI n) (pw J A s Q T) = some ((), pw J A s Q (T ++ lnB n)) := by
  have hq := (len_eq ⟨n, by omega⟩ h3).2.2.2.2
  simp only at hq
  unfold f_Packer_writeLength b_Packer_writeLength_0 lnB
  rw [if_neg (show ¬ nI n = (258 : Int32) from fun z => by have := (nI_eq (b := 258) (by omega) (by decide)).mp z; omega), show (3 : Int32) = nI 3 from rfl, pk_sub h3]
  by_cases c : n - 3 < 8
  · rw [if_neg (show ¬ (8 : Int32) ≤ nI (n - 3) from nI_ge (b := 8) c (by decide)), if_pos c, pw_o, show (257 : Int32) + nI (n - 3) = nI (257 + (n - 3)) from nI_add 257 _, pw_sym hF hS (by omega) h01 (by omega), Option.bind_some]
  · have he := hq.2
    have hle : (n - 3) / 2 ^ eL (n - 3) 5 1 ≤ 7 := by
      have key : ∀ n : Fin 201, 11 ≤ n.val → (n.val - 3) / 2 ^ eL (n.val - 3) 5 1 ≤ 7 ∧ 4 ≤ (n.val - 3) / 2 ^ eL (n.val - 3) 5 1 := by decide +kernel
      exact (key ⟨n, by omega⟩ (by show 11 ≤ n; omega)).1
    have h4 : 4 ≤ 261 + 4 * eL (n - 3) 5 1 + (n - 3) / 2 ^ eL (n - 3) 5 1 := by
      generalize (n - 3) / 2 ^ eL (n - 3) 5 1 = g
      omega
    have h288 : 261 + 4 * eL (n - 3) 5 1 + (n - 3) / 2 ^ eL (n - 3) 5 1 - 4 < 288 := by
      generalize (n - 3) / 2 ^ eL (n - 3) 5 1 = g at hle
      omega
    rw [if_pos (show (8 : Int32) ≤ nI (n - 3) from nI_le (a := 8) (by omega) (by omega)), if_neg c, show l_Packer_writeLength_37 F F 9 (nI (n - 3)) 1 (pw J A s Q T) = _ from pw_len_l (by omega) 5 F 1 (by omega) (by decide) (by decide)]
    unfold b_Packer_writeLength_56
    have es : (((261 : Int32) + ((4 : Int32) * nI (eL (n - 3) 5 1))) + (nI (n - 3) >>> (nI (eL (n - 3) 5 1) &&& 31))) - (4 : Int32) = nI (261 + 4 * eL (n - 3) 5 1 + (n - 3) / 2 ^ eL (n - 3) 5 1 - 4) := by
      rw [show (4 : Int32) = nI 4 from rfl, pk_mul, show (261 : Int32) = nI 261 from rfl, nI_add, shrD (by omega) (by omega), nI_add, pk_sub h4]
    have hl9 := sb_len (261 + 4 * eL (n - 3) 5 1 + (n - 3) / 2 ^ eL (n - 3) 5 1 - 4)
    rw [es, pw_o, pw_sym hF hS h288 h01 (by omega), Option.bind_some]
    simp only [pw_o]
    rw [pw_bits hF hS (by omega) (by omega) (h01.app (sb_01 _)) (by rw [List.length_append]; omega), Option.bind_some, List.append_assoc]
theorem pw_dis_l {v : Nat} (hv : v < 2 ^ 31) {w : zW} : ∀ (f m e : Nat), f < m → 13 ≤ e + f → e ≤ 30 → l_Packer_writeDistance_18 F m 9 (nI v) (nI e) w = b_Packer_writeDistance_37 F 9 (nI v) (nI (eDs v f e)) w := by
  intro f
  induction f with
  | zero =>
    intro m e hm he he2
    obtain ⟨m, rfl⟩ : ∃ q, m = q + 1 := ⟨m - 1, by omega⟩
    show b_Packer_writeDistance_18 F (l_Packer_writeDistance_18 F m) 9 (nI v) (nI e) w = _
    unfold b_Packer_writeDistance_18
    rw [if_pos (show (13 : Int32) ≤ nI e from nI_le (a := 13) (by omega) (by omega))]
    rfl
  | succ f ih =>
    intro m e hm he he2
    obtain ⟨m, rfl⟩ : ∃ q, m = q + 1 := ⟨m - 1, by omega⟩
    show b_Packer_writeDistance_18 F (l_Packer_writeDistance_18 F m) 9 (nI v) (nI e) w = _
    unfold b_Packer_writeDistance_18 eDs
    have hd := Nat.div_le_self v (2 ^ e)
    by_cases c1 : 13 ≤ e
    · rw [if_pos (show (13 : Int32) ≤ nI e from nI_le (a := 13) c1 (by omega)), if_pos (Or.inl c1)]
    · rw [if_neg (show ¬ (13 : Int32) ≤ nI e from nI_ge (b := 13) (by omega) (by decide)), shrD (by omega) hv]
      by_cases c2 : v / 2 ^ e ≤ 3
      · rw [if_pos (show nI (v / 2 ^ e) ≤ (3 : Int32) from nI_le (b := 3) c2 (by decide)), if_pos (Or.inr c2)]
      · rw [if_neg (show ¬ nI (v / 2 ^ e) ≤ (3 : Int32) from nI_ge (a := 3) (by omega) (by omega)), if_neg (by rintro (q | q); exact c1 q; exact c2 q), nI_1]
        exact ih m (e + 1) (by omega) (by omega) (by omega)
theorem pw_distance (hF : 20000 ≤ F) (hS : Sh A) {d : Nat} (h1 : 1 ≤ d) (hd : d ≤ 200) (h01 : is01 T) (hT : T.length + 18 ≤ 1816) : f_Packer_writeDistance F 9 (nI d) (pw J A s Q T) = some ((), pw J A s Q (T ++ dsB d)) := by
  have hq := (dis_eq ⟨d, by omega⟩ h1).2.2.2.2
  simp only at hq
  have w5 : ∀ v, v < 2 ^ 31 → f_Packer_writeWord F 9 (nI v) 5 (pw J A s Q T) = some ((), pw J A s Q (T ++ wb v 5)) := fun v hv => pw_word (n := 5) hF hS hv (by decide) h01 (by omega)
  unfold f_Packer_writeDistance b_Packer_writeDistance_0 dsB
  rw [show (1 : Int32) = nI 1 from rfl, pk_sub h1]
  by_cases c : d - 1 < 4
  · rw [if_neg (show ¬ (4 : Int32) ≤ nI (d - 1) from nI_ge (b := 4) c (by decide)), if_pos c, pw_o, w5 _ (by omega), Option.bind_some]
  · rw [if_pos (show (4 : Int32) ≤ nI (d - 1) from nI_le (a := 4) (by omega) (by omega)), if_neg c, show l_Packer_writeDistance_18 F F 9 (nI (d - 1)) (nI 1) (pw J A s Q T) = _ from pw_dis_l (by omega) 13 F 1 (by omega) (by decide) (by decide)]
    unfold b_Packer_writeDistance_37
    have hdv := Nat.div_le_self (d - 1) (2 ^ eDs (d - 1) 13 1)
    rw [show (2 : Int32) = nI 2 from rfl, pk_mul, shrD (by omega) (by omega), nI_add, pw_o, w5 _ (by omega), Option.bind_some]
    simp only [pw_o]
    rw [pw_bits hF hS (by omega) (by omega) (h01.app (wb_01 _ _)) (by rw [List.length_append, wb_len]; omega), Option.bind_some, List.append_assoc]
/-! repeats found -/
theorem c_same_l {i d : Nat} {w : zW} (hg : getR w 1 0 0 = some 2) (ha : ∀ k, k < B.length → aget w 2 (nI k) = some (B.getD k 0)) (hd : d ≤ i) (hB : B.length ≤ 200) : ∀ (f m n : Nat), f < m → i + n ≤ B.length → B.length < i + n + f → l_Packer_sameBytes_16 F m 1 (nI i) (nI d) (nI (B.length - i)) (nI n) w = some (nI (smL B i d f n), w) := by
  intro f
  induction f with
  | zero => intro m n _ h1 h2; omega
  | succ f ih =>
    intro m n hm h1 h2
    obtain ⟨m, rfl⟩ : ∃ q, m = q + 1 := ⟨m - 1, by omega⟩
    show b_Packer_sameBytes_16 F (l_Packer_sameBytes_16 F m) 1 (nI i) (nI d) (nI (B.length - i)) (nI n) w = _
    unfold b_Packer_sameBytes_16 b_Packer_sameBytes_51 smL
    by_cases c1 : i + n < B.length
    · rw [if_neg (nI_ge (by omega) (by omega)), hg, Option.bind_some, nI_add, ha _ (by omega), Option.bind_some, Option.bind_some, pk_sub (by omega), ha _ (by omega), Option.bind_some]
      by_cases c2 : B.getD (i + n) 0 = B.getD (i + n - d) 0
      · rw [if_pos c2, if_pos ⟨by omega, c1, c2⟩, nI_1]
        exact ih m (n + 1) (by omega) (by omega) (by omega)
      · rw [if_neg c2, if_neg (fun q => c2 q.2.2)]
    · rw [if_pos (nI_le (by omega) (by omega)), if_neg (fun q => c1 q.2.1)]
theorem gD_e {k : Nat} (h : k < B.length) : some B[k] = some (B.getD k 0) := by rw [List.getD_eq_getElem?_getD, List.getElem?_eq_getElem h]; rfl
theorem c_same (hF : 20000 ≤ F) {J1 : yJ} {A1 : yA} (h1 : J1 1 1 = nI B.length) (h2 : (A1 2).take B.length = B) (hB : B.length ≤ 200) {i d : Nat} (hi : i < B.length) (hd : d ≤ i) : f_Packer_sameBytes F 1 (nI i) (nI d) (YW J1 A1 s Q) = some (nI (smS B i d), YW J1 A1 s Q) := by
  unfold f_Packer_sameBytes b_Packer_sameBytes_0
  rw [R_1 r12, Option.bind_some, h1, pk_sub (by omega), if_pos (show nI (B.length - i) < (258 : Int32) from nI_lt (b := 258) (by omega) (by decide))]
  exact c_same_l (R_a r12) (fun k hk => by rw [← gD_e hk]; exact ag_ (by decide) (by omega) (take_get h2 hk)) hd hB 201 F 0 (by omega) (by omega) (by omega)
theorem c_find_rep_l (hF : 20000 ≤ F) {A1 : yA} (h2 : (A1 2).take B.length = B) (hB : B.length ≤ 200) {i : Nat} (hi : i < B.length) : ∀ (m d : Nat) (J1 : yJ), J1 1 1 = nI B.length → d ≤ i → i - d + 1 < m → l_Packer_findRepeat_12 F m 9 1 (nI i) (nI (d + 1)) (YW (pj (pj J1 9 3 (nI (bsS B i d).1)) 9 4 (nI (bsS B i d).2)) A1 s Q) = some ((), YW (pj (pj J1 9 3 (nI (bsS B i i).1)) 9 4 (nI (bsS B i i).2)) A1 s Q) := by
  intro m
  induction m with
  | zero => intro d J1 _ _ h; omega
  | succ m ih =>
    intro d J1 h1 hd hm
    show b_Packer_findRepeat_12 F (l_Packer_findRepeat_12 F m) 9 1 (nI i) (nI (d + 1)) _ = _
    unfold b_Packer_findRepeat_12 b_Packer_findRepeat_45
    by_cases hlt : d < i
    · have hb := bsS_le B i d
      have hs := smS_le B i (d + 1)
      have g3 : pj (pj J1 9 3 (nI (bsS B i d).1)) 9 4 (nI (bsS B i d).2) 9 3 = nI (bsS B i d).1 := by rw [pj_k (by decide), pj_s]
      rw [if_neg (nI_nlt (by omega) (by omega)), c_same hF (by rw [pj_o (by decide), pj_o (by decide)]; exact h1) h2 hB hi (by omega), Option.bind_some]
      simp only [wg_P, Option.bind_some]
      rw [g3]
      by_cases c : (bsS B i d).1 < smS B i (d + 1)
      · rw [if_neg (nI_ge c (by omega))]
        simp only [wp_P, Option.bind_some]
        have e : bsS B i (d + 1) = (smS B i (d + 1), d + 1) := by show (if _ then _ else _) = _; rw [if_pos c]
        have ep : pj (pj (pj (pj J1 9 3 (nI (bsS B i d).1)) 9 4 (nI (bsS B i d).2)) 9 3 (nI (smS B i (d + 1)))) 9 4 (nI (d + 1)) = pj (pj J1 9 3 (nI (bsS B i (d + 1)).1)) 9 4 (nI (bsS B i (d + 1)).2) := by
          rw [e, pj_comm (o := 9) (k := 4) (p := 9) (q := 3) (Or.inr (by decide)), pj_pj, pj_pj]
        rw [ep, nI_1]
        exact ih (d + 1) J1 h1 (by omega) (by omega)
      · rw [if_pos (nI_le (by omega) (by omega))]
        have e : bsS B i (d + 1) = bsS B i d := by show (if _ then _ else _) = _; rw [if_neg c]
        rw [← e, nI_1]
        exact ih (d + 1) J1 h1 (by omega) (by omega)
    · have ed : d = i := by omega
      subst ed
      rw [if_pos (nI_lt (by omega) (by omega))]
theorem pw_J93 (x y : Int32) : pw (pj (pj J 9 3 x) 9 4 y) A s Q T = YW (pj (pj (pj (pj (pj (pj J 5 1 (nI (T.length / 8))) 5 2 0) 9 1 (nI (byS T (T.length / 8)))) 9 2 (nI (T.length % 8))) 9 3 x) 9 4 y) (ud A 6 (wr (A 6) 0 (byL T (T.length / 8)))) s Q := by
  unfold pw
  congr 1
  rw [pj_comm (o := 9) (k := 4) (p := 5) (q := 1) (Or.inl (by decide)), pj_comm (o := 9) (k := 3) (p := 5) (q := 1) (Or.inl (by decide)), pj_comm (o := 9) (k := 4) (p := 5) (q := 2) (Or.inl (by decide)), pj_comm (o := 9) (k := 3) (p := 5) (q := 2) (Or.inl (by decide)), pj_comm (o := 9) (k := 4) (p := 9) (q := 1) (Or.inr (by decide)), pj_comm (o := 9) (k := 3) (p := 9) (q := 1) (Or.inr (by decide)), pj_comm (o := 9) (k := 4) (p := 9) (q := 2) (Or.inr (by decide)), pj_comm (o := 9) (k := 3) (p := 9) (q := 2) (Or.inr (by decide))]
theorem pw_find (hF : 20000 ≤ F) (h1 : J 1 1 = nI B.length) (h2 : (A 2).take B.length = B) (hB : B.length ≤ 200) {i : Nat} (hi : i < B.length) : f_Packer_findRepeat F 9 1 (nI i) (pw J A s Q T) = some ((), pw (pj (pj J 9 3 (nI (bsS B i i).1)) 9 4 (nI (bsS B i i).2)) A s Q T) := by
  rw [pw_J93]
  unfold f_Packer_findRepeat b_Packer_findRepeat_0 pw
  simp only [wp_P, Option.bind_some]
  have := c_find_rep_l (F := F) (s := s) (Q := Q) (A1 := ud A 6 (wr (A 6) 0 (byL T (T.length / 8)))) hF (by rw [ud_n (by decide)]; exact h2) hB hi F 0 (pj (pj (pj (pj J 5 1 (nI (T.length / 8))) 5 2 0) 9 1 (nI (byS T (T.length / 8)))) 9 2 (nI (T.length % 8))) (by rw [pj_o (by decide), pj_o (by decide), pj_o (by decide), pj_o (by decide)]; exact h1) (Nat.zero_le _) (by omega)
  exact this
theorem pw_g3 {x y : Int32} : getI (pw (pj (pj J 9 3 x) 9 4 y) A s Q T) 9 3 3 = some x ∧ getI (pw (pj (pj J 9 3 x) 9 4 y) A s Q T) 9 3 4 = some y := ⟨rfl, rfl⟩
theorem pw_get (hB : B.length ≤ 200) (h1 : J 1 1 = nI B.length) (h2 : (A 2).take B.length = B) {i : Nat} (hi : i < B.length) : f_Row_get F 1 (nI i) (pw J A s Q T) = some (B.getD i 0, pw J A s Q T) := by
  have hhas : f_Row_has F 1 (nI i) (pw J A s Q T) = some (1, pw J A s Q T) := by
    unfold f_Row_has b_Row_has_0
    rw [if_neg (nI_pos (by omega)), show getI (pw J A s Q T) 1 0 1 = some (J 1 1) from rfl, Option.bind_some, h1]
    first
      | rw [if_neg (nI_ge hi (by omega))]
      | rw [if_pos (nI_lt hi (by omega))]
  have ha : aget (pw J A s Q T) 2 (nI i) = some (B.getD i 0) := by
    rw [← gD_e hi]
    exact ag_ (by decide) (by omega) (by rw [ud_n (by decide)]; exact take_get h2 hi)
  unfold f_Row_get b_Row_get_0
  rw [show zobj (pw J A s Q T) 1 0 = some _ from rfl, Option.bind_some, hhas, Option.bind_some]
  simp only []
  rw [if_neg (show ¬ (1 : Int32) = 0 by decide), show getR (pw J A s Q T) 1 0 0 = some 2 from rfl, Option.bind_some, ha, Option.bind_some]
end Pw
