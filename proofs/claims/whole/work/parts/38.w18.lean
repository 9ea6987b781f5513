def b_Law_law_1123 (F : Nat) (sc : List Int32) (K23 : Nat → Nat → Nat → Int32 → zW → Option (Int32 × zW)) (v1 : Nat) (v2 : Nat) (v3 : Nat) (v4 : Int32) (w : zW) : Option (Int32 × zW) := K23 v1 v2 v3 (v4 + (4 : Int32)) w
set_option maxRecDepth 100000 in
set_option maxHeartbeats 4000000 in
theorem b_Law_law_1123_ok (G : zG) (F : Nat) (K23 : Nat → Nat → Nat → Int32 → zW → Option (Int32 × zW)) (n1 n2 : Nat) (hn1 : n1 + 2 ≤ 601024) (hn2 : n2 + 12 ≤ 7293034) (hK23 : ∀ (v1 : Nat) (v2 : Nat) (v3 : Nat) (v4 : Int32) (w : zW) (r : (Int32 × zW)), K23 v1 v2 v3 v4 w = some r → zV G m_Law_law 23 [(0, .ref (gB G)), (1, .ref (z0 G + v1)), (2, .ref (z0 G + v2)), (3, .ref (z0 G + v3)), (4, .int v4)] [] w (n1 + 2) (n2 + 12) (oI r.1) r.2) (v1 : Nat) (v2 : Nat) (v3 : Nat) (v4 : Int32) (w : zW) (r : (Int32 × zW)) (h : b_Law_law_1123 F (gS G) K23 v1 v2 v3 v4 w = some r) : zV G m_Law_law 1123 [(0, .ref (gB G)), (1, .ref (z0 G + v1)), (2, .ref (z0 G + v2)), (3, .ref (z0 G + v3)), (4, .int v4)] [] w (n1 + 2) (n2 + 12) (oI r.1) r.2 := by
  unfold b_Law_law_1123 at h
  refine V_iinc (i := 4) (v := (v4 + (4 : Int32))) d_Law_law_1123 4 rfl (congrArg (fun y => v4 + y) (by decide : Int32.ofInt (4) = (4 : Int32))) (by decide) rfl ?_
  refine V_goto (tgt := 23) d_Law_law_1126 (by decide) ?_
  refine V_lv [1, 2, 3, 4, 0] rfl ?_
  exact hK23 v1 v2 v3 (v4 + (4 : Int32)) w _ h
def b_Law_law_1087 (F : Nat) (sc : List Int32) (K23 : Nat → Nat → Nat → Int32 → zW → Option (Int32 × zW)) (v1 : Nat) (v2 : Nat) (v3 : Nat) (v4 : Int32) (w : zW) : Option (Int32 × zW) := (sget sc (v4 + (1 : Int32))).bind fun x1093 => (f_Law_cut F v1 x1093 w).bind fun r1094 => (sget sc (v4 + (1 : Int32))).bind fun x1105 => (zobj r1094.2 v2 9).bind fun _ => (f_Model_cut F v2 x1105 r1094.2).bind fun r1106 => (zobj r1106.2 v2 9).bind fun _ => (f_Model_thrown F v2 r1106.2).bind fun r1110 => if r1110.1 = r1094.1 then (b_Law_law_1123 F sc K23 v1 v2 v3 v4 r1110.2) else (some ((0 : Int32), r1110.2))
set_option maxRecDepth 100000 in
set_option maxHeartbeats 4000000 in
theorem b_Law_law_1087_ok (G : zG) (F : Nat) (K23 : Nat → Nat → Nat → Int32 → zW → Option (Int32 × zW)) (n1 n2 : Nat) (hn1 : n1 + 2 ≤ 601024) (hn2 : n2 + 12 ≤ 7293034) (hK23 : ∀ (v1 : Nat) (v2 : Nat) (v3 : Nat) (v4 : Int32) (w : zW) (r : (Int32 × zW)), K23 v1 v2 v3 v4 w = some r → zV G m_Law_law 23 [(0, .ref (gB G)), (1, .ref (z0 G + v1)), (2, .ref (z0 G + v2)), (3, .ref (z0 G + v3)), (4, .int v4)] [] w (n1 + 2) (n2 + 12) (oI r.1) r.2) (v1 : Nat) (v2 : Nat) (v3 : Nat) (v4 : Int32) (w : zW) (r : (Int32 × zW)) (h : b_Law_law_1087 F (gS G) K23 v1 v2 v3 v4 w = some r) : zV G m_Law_law 1087 [(0, .ref (gB G)), (1, .ref (z0 G + v1)), (2, .ref (z0 G + v2)), (3, .ref (z0 G + v3)), (4, .int v4)] [] w (n1 + 0) (n2 + 0) (oI r.1) r.2 := by
  unfold b_Law_law_1087 at h
  refine V_aload_n (i := 1) d_Law_law_1087 rfl 1 rfl ?_
  refine V_aload_n (i := 0) d_Law_law_1088 rfl 0 rfl ?_
  refine V_iload (i := 4) d_Law_law_1089 4 rfl ?_
  refine V_iconst (v := 1) d_Law_law_1091 (by decide) ?_
  refine V_iadd d_Law_law_1092 ?_
  obtain ⟨x1093, e1093, h⟩ := ob h
  refine V_sget d_Law_law_1093 e1093 ?_
  obtain ⟨r1094, e1094, h⟩ := ob h
  refine V_call (v := some (.int r1094.1)) (st := []) (inv_S (N := m_Law_cut) (As := [.ref (z0 G + v1), .int x1093]) d_Law_law_1094 k869 k870 k0 (Or.inr kc_Law_cut) y_Law_cut) ⟨Or.inr kc_Law_cut, k0, by decide, by decide⟩ (Nat.le_of_ble_eq_true rfl) (by show n1 + 0 + 1 ≤ 601024; omega) (by show n2 + 0 + 6 ≤ 7293034; omega) (c_Law_cut G F v1 x1093 w r1094 e1094) ?_
  refine V_n (k1 := n1 + 1) (k2 := n2 + 6) (Nat.le_refl _) (Nat.le_refl _) ?_
  refine V_istore (i := 5) d_Law_law_1097 (by decide) rfl ?_
  refine V_aload_n (i := 2) d_Law_law_1099 rfl 3 rfl ?_
  refine V_aload_n (i := 0) d_Law_law_1100 rfl 1 rfl ?_
  refine V_iload (i := 4) d_Law_law_1101 5 rfl ?_
  refine V_iconst (v := 1) d_Law_law_1103 (by decide) ?_
  refine V_iadd d_Law_law_1104 ?_
  obtain ⟨x1105, e1105, h⟩ := ob h
  refine V_sget d_Law_law_1105 e1105 ?_
  obtain ⟨_, eo1106, h⟩ := ob h
  obtain ⟨r1106, e1106, h⟩ := ob h
  refine V_call (v := none) (st := []) (inv_V (N := m_Model_cut) (As := [.int x1105]) (ci := 9) d_Law_law_1106 eo1106 rfl k1324 k1325 k1326 kc_Model_cut y_Model_cut) ⟨Or.inl kc_Model_cut, k10, by decide, by decide⟩ (Nat.le_of_ble_eq_true rfl) (by show n1 + 1 + 0 ≤ 601024; omega) (by show n2 + 6 + 0 ≤ 7293034; omega) (c_Model_cut G F v2 x1105 r1094.2 r1106 e1106) ?_
  refine V_n (k1 := n1 + 1) (k2 := n2 + 6) (Nat.le_refl _) (Nat.le_refl _) ?_
  refine V_aload_n (i := 2) d_Law_law_1109 rfl 3 rfl ?_
  obtain ⟨_, eo1110, h⟩ := ob h
  obtain ⟨r1110, e1110, h⟩ := ob h
  refine V_call (v := some (.int r1110.1)) (st := []) (inv_V (N := m_Model_thrown) (As := []) (ci := 9) d_Law_law_1110 eo1110 rfl k982 k983 k984 kc_Model_thrown y_Model_thrown) ⟨Or.inl kc_Model_thrown, k10, by decide, by decide⟩ (Nat.le_of_ble_eq_true rfl) (by show n1 + 1 + 0 ≤ 601024; omega) (by show n2 + 6 + 0 ≤ 7293034; omega) (c_Model_thrown G F v2 r1106.2 r1110 e1110) ?_
  refine V_n (k1 := n1 + 1) (k2 := n2 + 6) (Nat.le_refl _) (Nat.le_refl _) ?_
  refine V_iload (i := 5) d_Law_law_1113 0 rfl ?_
  refine V_icmp_eq (tgt := 1120) d_Law_law_1115 (by decide) (fun c1115 => ?_) (fun c1115 => ?_)
  · rw [if_pos c1115] at h
    refine V_goto (tgt := 1123) d_Law_law_1120 (by decide) ?_
    refine V_n (k1 := n1 + 2) (k2 := n2 + 12) (by omega) (by omega) ?_
    refine V_lv [1, 2, 3, 4, 5] rfl ?_
    exact b_Law_law_1123_ok G F K23 n1 n2 hn1 hn2 hK23 v1 v2 v3 v4 r1110.2 _ h
  · rw [if_neg c1115] at h
    refine V_iconst (v := 0) d_Law_law_1118 (by decide) ?_
    obtain rfl := Option.some.inj h
    exact V_zret rfl (Or.inl rfl) (by show n1 + 1 + 0 ≤ 601024; omega) (by show n2 + 6 + 0 ≤ 7293034; omega) d_Law_law_1119
def b_Law_law_1084 (F : Nat) (sc : List Int32) (K23 : Nat → Nat → Nat → Int32 → zW → Option (Int32 × zW)) (v1 : Nat) (v2 : Nat) (v3 : Nat) (v4 : Int32) (w : zW) : Option (Int32 × zW) := b_Law_law_1123 F sc K23 v1 v2 v3 v4 w
set_option maxRecDepth 100000 in
set_option maxHeartbeats 4000000 in
theorem b_Law_law_1084_ok (G : zG) (F : Nat) (K23 : Nat → Nat → Nat → Int32 → zW → Option (Int32 × zW)) (n1 n2 : Nat) (hn1 : n1 + 2 ≤ 601024) (hn2 : n2 + 12 ≤ 7293034) (hK23 : ∀ (v1 : Nat) (v2 : Nat) (v3 : Nat) (v4 : Int32) (w : zW) (r : (Int32 × zW)), K23 v1 v2 v3 v4 w = some r → zV G m_Law_law 23 [(0, .ref (gB G)), (1, .ref (z0 G + v1)), (2, .ref (z0 G + v2)), (3, .ref (z0 G + v3)), (4, .int v4)] [] w (n1 + 2) (n2 + 12) (oI r.1) r.2) (v1 : Nat) (v2 : Nat) (v3 : Nat) (v4 : Int32) (w : zW) (r : (Int32 × zW)) (h : b_Law_law_1084 F (gS G) K23 v1 v2 v3 v4 w = some r) : zV G m_Law_law 1084 [(0, .ref (gB G)), (1, .ref (z0 G + v1)), (2, .ref (z0 G + v2)), (3, .ref (z0 G + v3)), (4, .int v4)] [] w (n1 + 1) (n2 + 6) (oI r.1) r.2 := by
  unfold b_Law_law_1084 at h
  refine V_goto (tgt := 1123) d_Law_law_1084 (by decide) ?_
  refine V_n (k1 := n1 + 2) (k2 := n2 + 12) (by omega) (by omega) ?_
  exact b_Law_law_1123_ok G F K23 n1 n2 hn1 hn2 hK23 v1 v2 v3 v4 w _ h
def b_Law_law_987 (F : Nat) (sc : List Int32) (K23 : Nat → Nat → Nat → Int32 → zW → Option (Int32 × zW)) (v1 : Nat) (v2 : Nat) (v3 : Nat) (v4 : Int32) (w : zW) : Option (Int32 × zW) := (sget sc (v4 + (1 : Int32))).bind fun x993 => (sget sc (v4 + (2 : Int32))).bind fun x1003 => (sget sc (v4 + (3 : Int32))).bind fun x1015 => (f_Law_put F v1 ((x993.toInt64 <<< ((32 : Int32).toInt64 &&& 63)) ||| (x1003.toInt64 &&& (4294967295 : Int64))) x1015 v3 w).bind fun r1017 => (sget sc (v4 + (1 : Int32))).bind fun x1028 => (sget sc (v4 + (2 : Int32))).bind fun x1038 => (sget sc (v4 + (3 : Int32))).bind fun x1050 => (zobj r1017.2 v2 9).bind fun _ => (f_Model_put F v2 ((x1028.toInt64 <<< ((32 : Int32).toInt64 &&& 63)) ||| (x1038.toInt64 &&& (4294967295 : Int64))) x1050 r1017.2).bind fun r1051 => (zobj r1051.2 v2 9).bind fun _ => (f_Model_thrown F v2 r1051.2).bind fun r1057 => if r1057.1 = r1017.1 then (if r1017.1 = 0 then ((lget r1057.2 v3 (0 : Int32)).bind fun x1074 => if (lg_cmp x1074 r1051.1.toInt64) = 0 then (b_Law_law_1084 F sc K23 v1 v2 v3 v4 r1057.2) else (some ((0 : Int32), r1057.2))) else (b_Law_law_1084 F sc K23 v1 v2 v3 v4 r1057.2)) else (some ((0 : Int32), r1057.2))
set_option maxRecDepth 100000 in
set_option maxHeartbeats 4000000 in
theorem b_Law_law_987_ok (G : zG) (F : Nat) (K23 : Nat → Nat → Nat → Int32 → zW → Option (Int32 × zW)) (n1 n2 : Nat) (hn1 : n1 + 2 ≤ 601024) (hn2 : n2 + 12 ≤ 7293034) (hK23 : ∀ (v1 : Nat) (v2 : Nat) (v3 : Nat) (v4 : Int32) (w : zW) (r : (Int32 × zW)), K23 v1 v2 v3 v4 w = some r → zV G m_Law_law 23 [(0, .ref (gB G)), (1, .ref (z0 G + v1)), (2, .ref (z0 G + v2)), (3, .ref (z0 G + v3)), (4, .int v4)] [] w (n1 + 2) (n2 + 12) (oI r.1) r.2) (v1 : Nat) (v2 : Nat) (v3 : Nat) (v4 : Int32) (w : zW) (r : (Int32 × zW)) (h : b_Law_law_987 F (gS G) K23 v1 v2 v3 v4 w = some r) : zV G m_Law_law 987 [(0, .ref (gB G)), (1, .ref (z0 G + v1)), (2, .ref (z0 G + v2)), (3, .ref (z0 G + v3)), (4, .int v4)] [] w (n1 + 0) (n2 + 0) (oI r.1) r.2 := by
  unfold b_Law_law_987 at h
  refine V_aload_n (i := 1) d_Law_law_987 rfl 1 rfl ?_
  refine V_aload_n (i := 0) d_Law_law_988 rfl 0 rfl ?_
  refine V_iload (i := 4) d_Law_law_989 4 rfl ?_
  refine V_iconst (v := 1) d_Law_law_991 (by decide) ?_
  refine V_iadd d_Law_law_992 ?_
  obtain ⟨x993, e993, h⟩ := ob h
  refine V_sget d_Law_law_993 e993 ?_
  refine V_i2l d_Law_law_994 ?_
  refine V_bipush (v := 32) d_Law_law_995 (by decide) ?_
  refine V_lshl d_Law_law_997 ?_
  refine V_aload_n (i := 0) d_Law_law_998 rfl 0 rfl ?_
  refine V_iload (i := 4) d_Law_law_999 4 rfl ?_
  refine V_iconst (v := 2) d_Law_law_1001 (by decide) ?_
  refine V_iadd d_Law_law_1002 ?_
  obtain ⟨x1003, e1003, h⟩ := ob h
  refine V_sget d_Law_law_1003 e1003 ?_
  refine V_i2l d_Law_law_1004 ?_
  refine V_ldc2 (v := 4294967295) d_Law_law_1005 k1328 ?_
  refine V_land d_Law_law_1008 ?_
  refine V_lor d_Law_law_1009 ?_
  refine V_aload_n (i := 0) d_Law_law_1010 rfl 0 rfl ?_
  refine V_iload (i := 4) d_Law_law_1011 4 rfl ?_
  refine V_iconst (v := 3) d_Law_law_1013 (by decide) ?_
  refine V_iadd d_Law_law_1014 ?_
  obtain ⟨x1015, e1015, h⟩ := ob h
  refine V_sget d_Law_law_1015 e1015 ?_
  refine V_aload_n (i := 3) d_Law_law_1016 rfl 3 rfl ?_
  obtain ⟨r1017, e1017, h⟩ := ob h
  refine V_call (v := some (.int r1017.1)) (st := []) (inv_S (N := m_Law_put) (As := [.ref (z0 G + v1), .long ((x993.toInt64 <<< ((32 : Int32).toInt64 &&& 63)) ||| (x1003.toInt64 &&& (4294967295 : Int64))), .int x1015, .ref (z0 G + v3)]) d_Law_law_1017 k862 k863 k0 (Or.inr kc_Law_put) y_Law_put) ⟨Or.inr kc_Law_put, k0, by decide, by decide⟩ (Nat.le_of_ble_eq_true rfl) (by show n1 + 0 + 1 ≤ 601024; omega) (by show n2 + 0 + 6 ≤ 7293034; omega) (c_Law_put G F v1 ((x993.toInt64 <<< ((32 : Int32).toInt64 &&& 63)) ||| (x1003.toInt64 &&& (4294967295 : Int64))) x1015 v3 w r1017 e1017) ?_
  refine V_n (k1 := n1 + 1) (k2 := n2 + 6) (Nat.le_refl _) (Nat.le_refl _) ?_
  refine V_istore (i := 5) d_Law_law_1020 (by decide) rfl ?_
  refine V_aload_n (i := 2) d_Law_law_1022 rfl 3 rfl ?_
  refine V_aload_n (i := 0) d_Law_law_1023 rfl 1 rfl ?_
  refine V_iload (i := 4) d_Law_law_1024 5 rfl ?_
  refine V_iconst (v := 1) d_Law_law_1026 (by decide) ?_
  refine V_iadd d_Law_law_1027 ?_
  obtain ⟨x1028, e1028, h⟩ := ob h
  refine V_sget d_Law_law_1028 e1028 ?_
  refine V_i2l d_Law_law_1029 ?_
  refine V_bipush (v := 32) d_Law_law_1030 (by decide) ?_
  refine V_lshl d_Law_law_1032 ?_
  refine V_aload_n (i := 0) d_Law_law_1033 rfl 1 rfl ?_
  refine V_iload (i := 4) d_Law_law_1034 5 rfl ?_
  refine V_iconst (v := 2) d_Law_law_1036 (by decide) ?_
  refine V_iadd d_Law_law_1037 ?_
  obtain ⟨x1038, e1038, h⟩ := ob h
  refine V_sget d_Law_law_1038 e1038 ?_
  refine V_i2l d_Law_law_1039 ?_
  refine V_ldc2 (v := 4294967295) d_Law_law_1040 k1328 ?_
  refine V_land d_Law_law_1043 ?_
  refine V_lor d_Law_law_1044 ?_
  refine V_aload_n (i := 0) d_Law_law_1045 rfl 1 rfl ?_
  refine V_iload (i := 4) d_Law_law_1046 5 rfl ?_
  refine V_iconst (v := 3) d_Law_law_1048 (by decide) ?_
  refine V_iadd d_Law_law_1049 ?_
  obtain ⟨x1050, e1050, h⟩ := ob h
  refine V_sget d_Law_law_1050 e1050 ?_
  obtain ⟨_, eo1051, h⟩ := ob h
  obtain ⟨r1051, e1051, h⟩ := ob h
  refine V_call (v := some (.int r1051.1)) (st := []) (inv_V (N := m_Model_put) (As := [.long ((x1028.toInt64 <<< ((32 : Int32).toInt64 &&& 63)) ||| (x1038.toInt64 &&& (4294967295 : Int64))), .int x1050]) (ci := 9) d_Law_law_1051 eo1051 rfl k1320 k1321 k1322 kc_Model_put y_Model_put) ⟨Or.inl kc_Model_put, k10, by decide, by decide⟩ (Nat.le_of_ble_eq_true rfl) (by show n1 + 1 + 0 ≤ 601024; omega) (by show n2 + 6 + 0 ≤ 7293034; omega) (c_Model_put G F v2 ((x1028.toInt64 <<< ((32 : Int32).toInt64 &&& 63)) ||| (x1038.toInt64 &&& (4294967295 : Int64))) x1050 r1017.2 r1051 e1051) ?_
  refine V_n (k1 := n1 + 1) (k2 := n2 + 6) (Nat.le_refl _) (Nat.le_refl _) ?_
  refine V_istore (i := 6) d_Law_law_1054 (by decide) rfl ?_
  refine V_aload_n (i := 2) d_Law_law_1056 rfl 4 rfl ?_
  obtain ⟨_, eo1057, h⟩ := ob h
  obtain ⟨r1057, e1057, h⟩ := ob h
  refine V_call (v := some (.int r1057.1)) (st := []) (inv_V (N := m_Model_thrown) (As := []) (ci := 9) d_Law_law_1057 eo1057 rfl k982 k983 k984 kc_Model_thrown y_Model_thrown) ⟨Or.inl kc_Model_thrown, k10, by decide, by decide⟩ (Nat.le_of_ble_eq_true rfl) (by show n1 + 1 + 0 ≤ 601024; omega) (by show n2 + 6 + 0 ≤ 7293034; omega) (c_Model_thrown G F v2 r1051.2 r1057 e1057) ?_
  refine V_n (k1 := n1 + 1) (k2 := n2 + 6) (Nat.le_refl _) (Nat.le_refl _) ?_
  refine V_iload (i := 5) d_Law_law_1060 1 rfl ?_
  refine V_icmp_eq (tgt := 1067) d_Law_law_1062 (by decide) (fun c1062 => ?_) (fun c1062 => ?_)
  · rw [if_pos c1062] at h
    refine V_iload (i := 5) d_Law_law_1067 1 rfl ?_
    refine V_if_ne (tgt := 1084) d_Law_law_1069 (by decide) (fun c1069 => ?_) (fun c1069 => ?_)
    · rw [if_neg c1069] at h
      refine V_lv [2, 3, 4, 5, 6] rfl ?_
      exact b_Law_law_1084_ok G F K23 n1 n2 hn1 hn2 hK23 v1 v2 v3 v4 r1057.2 _ h
    · rw [if_pos c1069] at h
      refine V_aload_n (i := 3) d_Law_law_1072 rfl 5 rfl ?_
      refine V_iconst (v := 0) d_Law_law_1073 (by decide) ?_
      obtain ⟨x1074, e1074, h⟩ := ob h
      refine V_lget d_Law_law_1074 e1074 ?_
      refine V_iload (i := 6) d_Law_law_1075 0 rfl ?_
      refine V_i2l d_Law_law_1077 ?_
      refine V_lcmp d_Law_law_1078 ?_
      refine V_if_eq (tgt := 1084) d_Law_law_1079 (by decide) (fun c1079 => ?_) (fun c1079 => ?_)
      · rw [if_pos c1079] at h
        refine V_lv [2, 3, 4, 5, 6] rfl ?_
        exact b_Law_law_1084_ok G F K23 n1 n2 hn1 hn2 hK23 v1 v2 v3 v4 r1057.2 _ h
      · rw [if_neg c1079] at h
        refine V_iconst (v := 0) d_Law_law_1082 (by decide) ?_
        obtain rfl := Option.some.inj h
        exact V_zret rfl (Or.inl rfl) (by show n1 + 1 + 0 ≤ 601024; omega) (by show n2 + 6 + 0 ≤ 7293034; omega) d_Law_law_1083
  · rw [if_neg c1062] at h
    refine V_iconst (v := 0) d_Law_law_1065 (by decide) ?_
    obtain rfl := Option.some.inj h
    exact V_zret rfl (Or.inl rfl) (by show n1 + 1 + 0 ≤ 601024; omega) (by show n2 + 6 + 0 ≤ 7293034; omega) d_Law_law_1066
def b_Law_law_939 (F : Nat) (sc : List Int32) (K23 : Nat → Nat → Nat → Int32 → zW → Option (Int32 × zW)) (v1 : Nat) (v2 : Nat) (v3 : Nat) (v4 : Int32) (w : zW) : Option (Int32 × zW) := (sget sc (v4 + (1 : Int32))).bind fun x945 => (sget sc (v4 + (2 : Int32))).bind fun x951 => (f_Law_poke F v1 x945 x951 w).bind fun r952 => (sget sc (v4 + (1 : Int32))).bind fun x963 => (sget sc (v4 + (2 : Int32))).bind fun x969 => (zobj r952.2 v2 9).bind fun _ => (f_Model_poke F v2 x963 x969 r952.2).bind fun r970 => (zobj r970.2 v2 9).bind fun _ => (f_Model_thrown F v2 r970.2).bind fun r974 => if r974.1 = r952.1 then (b_Law_law_1123 F sc K23 v1 v2 v3 v4 r974.2) else (some ((0 : Int32), r974.2))
set_option maxRecDepth 100000 in
set_option maxHeartbeats 4000000 in
theorem b_Law_law_939_ok (G : zG) (F : Nat) (K23 : Nat → Nat → Nat → Int32 → zW → Option (Int32 × zW)) (n1 n2 : Nat) (hn1 : n1 + 2 ≤ 601024) (hn2 : n2 + 12 ≤ 7293034) (hK23 : ∀ (v1 : Nat) (v2 : Nat) (v3 : Nat) (v4 : Int32) (w : zW) (r : (Int32 × zW)), K23 v1 v2 v3 v4 w = some r → zV G m_Law_law 23 [(0, .ref (gB G)), (1, .ref (z0 G + v1)), (2, .ref (z0 G + v2)), (3, .ref (z0 G + v3)), (4, .int v4)] [] w (n1 + 2) (n2 + 12) (oI r.1) r.2) (v1 : Nat) (v2 : Nat) (v3 : Nat) (v4 : Int32) (w : zW) (r : (Int32 × zW)) (h : b_Law_law_939 F (gS G) K23 v1 v2 v3 v4 w = some r) : zV G m_Law_law 939 [(0, .ref (gB G)), (1, .ref (z0 G + v1)), (2, .ref (z0 G + v2)), (3, .ref (z0 G + v3)), (4, .int v4)] [] w (n1 + 0) (n2 + 0) (oI r.1) r.2 := by
  unfold b_Law_law_939 at h
  refine V_aload_n (i := 1) d_Law_law_939 rfl 1 rfl ?_
  refine V_aload_n (i := 0) d_Law_law_940 rfl 0 rfl ?_
  refine V_iload (i := 4) d_Law_law_941 4 rfl ?_
  refine V_iconst (v := 1) d_Law_law_943 (by decide) ?_
  refine V_iadd d_Law_law_944 ?_
  obtain ⟨x945, e945, h⟩ := ob h
  refine V_sget d_Law_law_945 e945 ?_
  refine V_aload_n (i := 0) d_Law_law_946 rfl 0 rfl ?_
  refine V_iload (i := 4) d_Law_law_947 4 rfl ?_
  refine V_iconst (v := 2) d_Law_law_949 (by decide) ?_
  refine V_iadd d_Law_law_950 ?_
  obtain ⟨x951, e951, h⟩ := ob h
  refine V_sget d_Law_law_951 e951 ?_
  obtain ⟨r952, e952, h⟩ := ob h
  refine V_call (v := some (.int r952.1)) (st := []) (inv_S (N := m_Law_poke) (As := [.ref (z0 G + v1), .int x945, .int x951]) d_Law_law_952 k855 k856 k0 (Or.inr kc_Law_poke) y_Law_poke) ⟨Or.inr kc_Law_poke, k0, by decide, by decide⟩ (Nat.le_of_ble_eq_true rfl) (by show n1 + 0 + 1 ≤ 601024; omega) (by show n2 + 0 + 6 ≤ 7293034; omega) (c_Law_poke G F v1 x945 x951 w r952 e952) ?_
  refine V_n (k1 := n1 + 1) (k2 := n2 + 6) (Nat.le_refl _) (Nat.le_refl _) ?_
  refine V_istore (i := 5) d_Law_law_955 (by decide) rfl ?_
  refine V_aload_n (i := 2) d_Law_law_957 rfl 3 rfl ?_
  refine V_aload_n (i := 0) d_Law_law_958 rfl 1 rfl ?_
  refine V_iload (i := 4) d_Law_law_959 5 rfl ?_
  refine V_iconst (v := 1) d_Law_law_961 (by decide) ?_
  refine V_iadd d_Law_law_962 ?_
  obtain ⟨x963, e963, h⟩ := ob h
  refine V_sget d_Law_law_963 e963 ?_
  refine V_aload_n (i := 0) d_Law_law_964 rfl 1 rfl ?_
  refine V_iload (i := 4) d_Law_law_965 5 rfl ?_
  refine V_iconst (v := 2) d_Law_law_967 (by decide) ?_
  refine V_iadd d_Law_law_968 ?_
  obtain ⟨x969, e969, h⟩ := ob h
  refine V_sget d_Law_law_969 e969 ?_
  obtain ⟨_, eo970, h⟩ := ob h
  obtain ⟨r970, e970, h⟩ := ob h
  refine V_call (v := none) (st := []) (inv_V (N := m_Model_poke) (As := [.int x963, .int x969]) (ci := 9) d_Law_law_970 eo970 rfl k1316 k1317 k1318 kc_Model_poke y_Model_poke) ⟨Or.inl kc_Model_poke, k10, by decide, by decide⟩ (Nat.le_of_ble_eq_true rfl) (by show n1 + 1 + 0 ≤ 601024; omega) (by show n2 + 6 + 0 ≤ 7293034; omega) (c_Model_poke G F v2 x963 x969 r952.2 r970 e970) ?_
  refine V_n (k1 := n1 + 1) (k2 := n2 + 6) (Nat.le_refl _) (Nat.le_refl _) ?_
  refine V_aload_n (i := 2) d_Law_law_973 rfl 3 rfl ?_
  obtain ⟨_, eo974, h⟩ := ob h
  obtain ⟨r974, e974, h⟩ := ob h
  refine V_call (v := some (.int r974.1)) (st := []) (inv_V (N := m_Model_thrown) (As := []) (ci := 9) d_Law_law_974 eo974 rfl k982 k983 k984 kc_Model_thrown y_Model_thrown) ⟨Or.inl kc_Model_thrown, k10, by decide, by decide⟩ (Nat.le_of_ble_eq_true rfl) (by show n1 + 1 + 0 ≤ 601024; omega) (by show n2 + 6 + 0 ≤ 7293034; omega) (c_Model_thrown G F v2 r970.2 r974 e974) ?_
  refine V_n (k1 := n1 + 1) (k2 := n2 + 6) (Nat.le_refl _) (Nat.le_refl _) ?_
  refine V_iload (i := 5) d_Law_law_977 0 rfl ?_
  refine V_icmp_eq (tgt := 984) d_Law_law_979 (by decide) (fun c979 => ?_) (fun c979 => ?_)
  · rw [if_pos c979] at h
    refine V_goto (tgt := 1123) d_Law_law_984 (by decide) ?_
    refine V_n (k1 := n1 + 2) (k2 := n2 + 12) (by omega) (by omega) ?_
    refine V_lv [1, 2, 3, 4, 5] rfl ?_
    exact b_Law_law_1123_ok G F K23 n1 n2 hn1 hn2 hK23 v1 v2 v3 v4 r974.2 _ h
  · rw [if_neg c979] at h
    refine V_iconst (v := 0) d_Law_law_982 (by decide) ?_
    obtain rfl := Option.some.inj h
    exact V_zret rfl (Or.inl rfl) (by show n1 + 1 + 0 ≤ 601024; omega) (by show n2 + 6 + 0 ≤ 7293034; omega) d_Law_law_983
def b_Law_law_936 (F : Nat) (sc : List Int32) (K23 : Nat → Nat → Nat → Int32 → zW → Option (Int32 × zW)) (v1 : Nat) (v2 : Nat) (v3 : Nat) (v4 : Int32) (w : zW) : Option (Int32 × zW) := b_Law_law_1123 F sc K23 v1 v2 v3 v4 w
set_option maxRecDepth 100000 in
set_option maxHeartbeats 4000000 in
theorem b_Law_law_936_ok (G : zG) (F : Nat) (K23 : Nat → Nat → Nat → Int32 → zW → Option (Int32 × zW)) (n1 n2 : Nat) (hn1 : n1 + 2 ≤ 601024) (hn2 : n2 + 12 ≤ 7293034) (hK23 : ∀ (v1 : Nat) (v2 : Nat) (v3 : Nat) (v4 : Int32) (w : zW) (r : (Int32 × zW)), K23 v1 v2 v3 v4 w = some r → zV G m_Law_law 23 [(0, .ref (gB G)), (1, .ref (z0 G + v1)), (2, .ref (z0 G + v2)), (3, .ref (z0 G + v3)), (4, .int v4)] [] w (n1 + 2) (n2 + 12) (oI r.1) r.2) (v1 : Nat) (v2 : Nat) (v3 : Nat) (v4 : Int32) (w : zW) (r : (Int32 × zW)) (h : b_Law_law_936 F (gS G) K23 v1 v2 v3 v4 w = some r) : zV G m_Law_law 936 [(0, .ref (gB G)), (1, .ref (z0 G + v1)), (2, .ref (z0 G + v2)), (3, .ref (z0 G + v3)), (4, .int v4)] [] w (n1 + 1) (n2 + 6) (oI r.1) r.2 := by
  unfold b_Law_law_936 at h
  refine V_goto (tgt := 1123) d_Law_law_936 (by decide) ?_
  refine V_n (k1 := n1 + 2) (k2 := n2 + 12) (by omega) (by omega) ?_
  exact b_Law_law_1123_ok G F K23 n1 n2 hn1 hn2 hK23 v1 v2 v3 v4 w _ h
def b_Law_law_883 (F : Nat) (sc : List Int32) (K23 : Nat → Nat → Nat → Int32 → zW → Option (Int32 × zW)) (v1 : Nat) (v2 : Nat) (v3 : Nat) (v4 : Int32) (w : zW) : Option (Int32 × zW) := (sget sc (v4 + (1 : Int32))).bind fun x889 => (f_Law_byteAt F v1 x889 v3 w).bind fun r891 => (sget sc (v4 + (1 : Int32))).bind fun x902 => (zobj r891.2 v2 9).bind fun _ => (f_Model_byteAt F v2 x902 r891.2).bind fun r903 => (zobj r903.2 v2 9).bind fun _ => (f_Model_thrown F v2 r903.2).bind fun r909 => if r909.1 = r891.1 then (if r891.1 = 0 then ((lget r909.2 v3 (0 : Int32)).bind fun x926 => if (lg_cmp x926 r903.1.toInt64) = 0 then (b_Law_law_936 F sc K23 v1 v2 v3 v4 r909.2) else (some ((0 : Int32), r909.2))) else (b_Law_law_936 F sc K23 v1 v2 v3 v4 r909.2)) else (some ((0 : Int32), r909.2))
set_option maxRecDepth 100000 in
set_option maxHeartbeats 4000000 in
theorem b_Law_law_883_ok (G : zG) (F : Nat) (K23 : Nat → Nat → Nat → Int32 → zW → Option (Int32 × zW)) (n1 n2 : Nat) (hn1 : n1 + 2 ≤ 601024) (hn2 : n2 + 12 ≤ 7293034) (hK23 : ∀ (v1 : Nat) (v2 : Nat) (v3 : Nat) (v4 : Int32) (w : zW) (r : (Int32 × zW)), K23 v1 v2 v3 v4 w = some r → zV G m_Law_law 23 [(0, .ref (gB G)), (1, .ref (z0 G + v1)), (2, .ref (z0 G + v2)), (3, .ref (z0 G + v3)), (4, .int v4)] [] w (n1 + 2) (n2 + 12) (oI r.1) r.2) (v1 : Nat) (v2 : Nat) (v3 : Nat) (v4 : Int32) (w : zW) (r : (Int32 × zW)) (h : b_Law_law_883 F (gS G) K23 v1 v2 v3 v4 w = some r) : zV G m_Law_law 883 [(0, .ref (gB G)), (1, .ref (z0 G + v1)), (2, .ref (z0 G + v2)), (3, .ref (z0 G + v3)), (4, .int v4)] [] w (n1 + 0) (n2 + 0) (oI r.1) r.2 := by
  unfold b_Law_law_883 at h
  refine V_aload_n (i := 1) d_Law_law_883 rfl 1 rfl ?_
  refine V_aload_n (i := 0) d_Law_law_884 rfl 0 rfl ?_
  refine V_iload (i := 4) d_Law_law_885 4 rfl ?_
  refine V_iconst (v := 1) d_Law_law_887 (by decide) ?_
  refine V_iadd d_Law_law_888 ?_
  obtain ⟨x889, e889, h⟩ := ob h
  refine V_sget d_Law_law_889 e889 ?_
  refine V_aload_n (i := 3) d_Law_law_890 rfl 3 rfl ?_
  obtain ⟨r891, e891, h⟩ := ob h
  refine V_call (v := some (.int r891.1)) (st := []) (inv_S (N := m_Law_byteAt) (As := [.ref (z0 G + v1), .int x889, .ref (z0 G + v3)]) d_Law_law_891 k848 k849 k0 (Or.inr kc_Law_byteAt) y_Law_byteAt) ⟨Or.inr kc_Law_byteAt, k0, by decide, by decide⟩ (Nat.le_of_ble_eq_true rfl) (by show n1 + 0 + 1 ≤ 601024; omega) (by show n2 + 0 + 6 ≤ 7293034; omega) (c_Law_byteAt G F v1 x889 v3 w r891 e891) ?_
  refine V_n (k1 := n1 + 1) (k2 := n2 + 6) (Nat.le_refl _) (Nat.le_refl _) ?_
  refine V_istore (i := 5) d_Law_law_894 (by decide) rfl ?_
  refine V_aload_n (i := 2) d_Law_law_896 rfl 3 rfl ?_
  refine V_aload_n (i := 0) d_Law_law_897 rfl 1 rfl ?_
  refine V_iload (i := 4) d_Law_law_898 5 rfl ?_
  refine V_iconst (v := 1) d_Law_law_900 (by decide) ?_
  refine V_iadd d_Law_law_901 ?_
  obtain ⟨x902, e902, h⟩ := ob h
  refine V_sget d_Law_law_902 e902 ?_
  obtain ⟨_, eo903, h⟩ := ob h
  obtain ⟨r903, e903, h⟩ := ob h
  refine V_call (v := some (.int r903.1)) (st := []) (inv_V (N := m_Model_byteAt) (As := [.int x902]) (ci := 9) d_Law_law_903 eo903 rfl k1312 k1313 k1314 kc_Model_byteAt y_Model_byteAt) ⟨Or.inl kc_Model_byteAt, k10, by decide, by decide⟩ (Nat.le_of_ble_eq_true rfl) (by show n1 + 1 + 0 ≤ 601024; omega) (by show n2 + 6 + 0 ≤ 7293034; omega) (c_Model_byteAt G F v2 x902 r891.2 r903 e903) ?_
  refine V_n (k1 := n1 + 1) (k2 := n2 + 6) (Nat.le_refl _) (Nat.le_refl _) ?_
  refine V_istore (i := 6) d_Law_law_906 (by decide) rfl ?_
  refine V_aload_n (i := 2) d_Law_law_908 rfl 4 rfl ?_
  obtain ⟨_, eo909, h⟩ := ob h
  obtain ⟨r909, e909, h⟩ := ob h
  refine V_call (v := some (.int r909.1)) (st := []) (inv_V (N := m_Model_thrown) (As := []) (ci := 9) d_Law_law_909 eo909 rfl k982 k983 k984 kc_Model_thrown y_Model_thrown) ⟨Or.inl kc_Model_thrown, k10, by decide, by decide⟩ (Nat.le_of_ble_eq_true rfl) (by show n1 + 1 + 0 ≤ 601024; omega) (by show n2 + 6 + 0 ≤ 7293034; omega) (c_Model_thrown G F v2 r903.2 r909 e909) ?_
  refine V_n (k1 := n1 + 1) (k2 := n2 + 6) (Nat.le_refl _) (Nat.le_refl _) ?_
  refine V_iload (i := 5) d_Law_law_912 1 rfl ?_
  refine V_icmp_eq (tgt := 919) d_Law_law_914 (by decide) (fun c914 => ?_) (fun c914 => ?_)
  · rw [if_pos c914] at h
    refine V_iload (i := 5) d_Law_law_919 1 rfl ?_
    refine V_if_ne (tgt := 936) d_Law_law_921 (by decide) (fun c921 => ?_) (fun c921 => ?_)
    · rw [if_neg c921] at h
      refine V_lv [2, 3, 4, 5, 6] rfl ?_
      exact b_Law_law_936_ok G F K23 n1 n2 hn1 hn2 hK23 v1 v2 v3 v4 r909.2 _ h
    · rw [if_pos c921] at h
      refine V_aload_n (i := 3) d_Law_law_924 rfl 5 rfl ?_
      refine V_iconst (v := 0) d_Law_law_925 (by decide) ?_
      obtain ⟨x926, e926, h⟩ := ob h
      refine V_lget d_Law_law_926 e926 ?_
      refine V_iload (i := 6) d_Law_law_927 0 rfl ?_
      refine V_i2l d_Law_law_929 ?_
      refine V_lcmp d_Law_law_930 ?_
      refine V_if_eq (tgt := 936) d_Law_law_931 (by decide) (fun c931 => ?_) (fun c931 => ?_)
      · rw [if_pos c931] at h
        refine V_lv [2, 3, 4, 5, 6] rfl ?_
        exact b_Law_law_936_ok G F K23 n1 n2 hn1 hn2 hK23 v1 v2 v3 v4 r909.2 _ h
      · rw [if_neg c931] at h
        refine V_iconst (v := 0) d_Law_law_934 (by decide) ?_
        obtain rfl := Option.some.inj h
        exact V_zret rfl (Or.inl rfl) (by show n1 + 1 + 0 ≤ 601024; omega) (by show n2 + 6 + 0 ≤ 7293034; omega) d_Law_law_935
  · rw [if_neg c914] at h
    refine V_iconst (v := 0) d_Law_law_917 (by decide) ?_
    obtain rfl := Option.some.inj h
    exact V_zret rfl (Or.inl rfl) (by show n1 + 1 + 0 ≤ 601024; omega) (by show n2 + 6 + 0 ≤ 7293034; omega) d_Law_law_918
def b_Law_law_870 (F : Nat) (sc : List Int32) (K23 : Nat → Nat → Nat → Int32 → zW → Option (Int32 × zW)) (v1 : Nat) (v2 : Nat) (v3 : Nat) (v4 : Int32) (w : zW) : Option (Int32 × zW) := (zobj w v1 8).bind fun _ => (f_Zip_length F v1 w).bind fun r871 => (zobj r871.2 v2 9).bind fun _ => (f_Model_length F v2 r871.2).bind fun r875 => if r871.1 = r875.1 then (b_Law_law_1123 F sc K23 v1 v2 v3 v4 r875.2) else (some ((0 : Int32), r875.2))
set_option maxRecDepth 100000 in
set_option maxHeartbeats 4000000 in
theorem b_Law_law_870_ok (G : zG) (F : Nat) (K23 : Nat → Nat → Nat → Int32 → zW → Option (Int32 × zW)) (n1 n2 : Nat) (hn1 : n1 + 2 ≤ 601024) (hn2 : n2 + 12 ≤ 7293034) (hK23 : ∀ (v1 : Nat) (v2 : Nat) (v3 : Nat) (v4 : Int32) (w : zW) (r : (Int32 × zW)), K23 v1 v2 v3 v4 w = some r → zV G m_Law_law 23 [(0, .ref (gB G)), (1, .ref (z0 G + v1)), (2, .ref (z0 G + v2)), (3, .ref (z0 G + v3)), (4, .int v4)] [] w (n1 + 2) (n2 + 12) (oI r.1) r.2) (v1 : Nat) (v2 : Nat) (v3 : Nat) (v4 : Int32) (w : zW) (r : (Int32 × zW)) (h : b_Law_law_870 F (gS G) K23 v1 v2 v3 v4 w = some r) : zV G m_Law_law 870 [(0, .ref (gB G)), (1, .ref (z0 G + v1)), (2, .ref (z0 G + v2)), (3, .ref (z0 G + v3)), (4, .int v4)] [] w (n1 + 0) (n2 + 0) (oI r.1) r.2 := by
  unfold b_Law_law_870 at h
  refine V_aload_n (i := 1) d_Law_law_870 rfl 1 rfl ?_
  obtain ⟨_, eo871, h⟩ := ob h
  obtain ⟨r871, e871, h⟩ := ob h
  refine V_call (v := some (.int r871.1)) (st := []) (inv_V (N := m_Zip_length) (As := []) (ci := 8) d_Law_law_871 eo871 rfl k525 k526 k527 kc_Zip_length y_Zip_length) ⟨Or.inl kc_Zip_length, k1, by decide, by decide⟩ (Nat.le_of_ble_eq_true rfl) (by show n1 + 0 + 0 ≤ 601024; omega) (by show n2 + 0 + 0 ≤ 7293034; omega) (c_Zip_length G F v1 w r871 e871) ?_
  refine V_n (k1 := n1 + 0) (k2 := n2 + 0) (Nat.le_refl _) (Nat.le_refl _) ?_
  refine V_aload_n (i := 2) d_Law_law_874 rfl 2 rfl ?_
  obtain ⟨_, eo875, h⟩ := ob h
  obtain ⟨r875, e875, h⟩ := ob h
  refine V_call (v := some (.int r875.1)) (st := [.int r871.1]) (inv_V (N := m_Model_length) (As := []) (ci := 9) d_Law_law_875 eo875 rfl k1308 k1309 k1310 kc_Model_length y_Model_length) ⟨Or.inl kc_Model_length, k10, by decide, by decide⟩ (Nat.le_of_ble_eq_true rfl) (by show n1 + 0 + 0 ≤ 601024; omega) (by show n2 + 0 + 0 ≤ 7293034; omega) (c_Model_length G F v2 r871.2 r875 e875) ?_
  refine V_n (k1 := n1 + 0) (k2 := n2 + 0) (Nat.le_refl _) (Nat.le_refl _) ?_
  refine V_icmp_eq (tgt := 1123) d_Law_law_878 (by decide) (fun c878 => ?_) (fun c878 => ?_)
  · rw [if_pos c878] at h
    refine V_n (k1 := n1 + 2) (k2 := n2 + 12) (by omega) (by omega) ?_
    exact b_Law_law_1123_ok G F K23 n1 n2 hn1 hn2 hK23 v1 v2 v3 v4 r875.2 _ h
  · rw [if_neg c878] at h
    refine V_iconst (v := 0) d_Law_law_881 (by decide) ?_
    obtain rfl := Option.some.inj h
    exact V_zret rfl (Or.inl rfl) (by show n1 + 0 + 0 ≤ 601024; omega) (by show n2 + 0 + 0 ≤ 7293034; omega) d_Law_law_882
def b_Law_law_857 (F : Nat) (sc : List Int32) (K23 : Nat → Nat → Nat → Int32 → zW → Option (Int32 × zW)) (v1 : Nat) (v2 : Nat) (v3 : Nat) (v4 : Int32) (w : zW) : Option (Int32 × zW) := (zobj w v1 8).bind fun _ => (f_Zip_check F v1 w).bind fun r858 => (zobj r858.2 v2 9).bind fun _ => (f_Model_check F v2 r858.2).bind fun r862 => if r858.1 = r862.1 then (b_Law_law_1123 F sc K23 v1 v2 v3 v4 r862.2) else (some ((0 : Int32), r862.2))
set_option maxRecDepth 100000 in
set_option maxHeartbeats 4000000 in
theorem b_Law_law_857_ok (G : zG) (F : Nat) (K23 : Nat → Nat → Nat → Int32 → zW → Option (Int32 × zW)) (n1 n2 : Nat) (hn1 : n1 + 2 ≤ 601024) (hn2 : n2 + 12 ≤ 7293034) (hK23 : ∀ (v1 : Nat) (v2 : Nat) (v3 : Nat) (v4 : Int32) (w : zW) (r : (Int32 × zW)), K23 v1 v2 v3 v4 w = some r → zV G m_Law_law 23 [(0, .ref (gB G)), (1, .ref (z0 G + v1)), (2, .ref (z0 G + v2)), (3, .ref (z0 G + v3)), (4, .int v4)] [] w (n1 + 2) (n2 + 12) (oI r.1) r.2) (v1 : Nat) (v2 : Nat) (v3 : Nat) (v4 : Int32) (w : zW) (r : (Int32 × zW)) (h : b_Law_law_857 F (gS G) K23 v1 v2 v3 v4 w = some r) : zV G m_Law_law 857 [(0, .ref (gB G)), (1, .ref (z0 G + v1)), (2, .ref (z0 G + v2)), (3, .ref (z0 G + v3)), (4, .int v4)] [] w (n1 + 0) (n2 + 0) (oI r.1) r.2 := by
  unfold b_Law_law_857 at h
  refine V_aload_n (i := 1) d_Law_law_857 rfl 1 rfl ?_
  obtain ⟨_, eo858, h⟩ := ob h
  obtain ⟨r858, e858, h⟩ := ob h
  refine V_call (v := some (.int r858.1)) (st := []) (inv_V (N := m_Zip_check) (As := []) (ci := 8) d_Law_law_858 eo858 rfl k356 k357 k358 kc_Zip_check y_Zip_check) ⟨Or.inl kc_Zip_check, k1, by decide, by decide⟩ (Nat.le_of_ble_eq_true rfl) (by show n1 + 0 + 0 ≤ 601024; omega) (by show n2 + 0 + 0 ≤ 7293034; omega) (c_Zip_check G F v1 w r858 e858) ?_
  refine V_n (k1 := n1 + 0) (k2 := n2 + 0) (Nat.le_refl _) (Nat.le_refl _) ?_
  refine V_aload_n (i := 2) d_Law_law_861 rfl 2 rfl ?_
  obtain ⟨_, eo862, h⟩ := ob h
  obtain ⟨r862, e862, h⟩ := ob h
  refine V_call (v := some (.int r862.1)) (st := [.int r858.1]) (inv_V (N := m_Model_check) (As := []) (ci := 9) d_Law_law_862 eo862 rfl k1126 k1127 k1128 kc_Model_check y_Model_check) ⟨Or.inl kc_Model_check, k10, by decide, by decide⟩ (Nat.le_of_ble_eq_true rfl) (by show n1 + 0 + 0 ≤ 601024; omega) (by show n2 + 0 + 0 ≤ 7293034; omega) (c_Model_check G F v2 r858.2 r862 e862) ?_
  refine V_n (k1 := n1 + 0) (k2 := n2 + 0) (Nat.le_refl _) (Nat.le_refl _) ?_
  refine V_icmp_eq (tgt := 1123) d_Law_law_865 (by decide) (fun c865 => ?_) (fun c865 => ?_)
  · rw [if_pos c865] at h
    refine V_n (k1 := n1 + 2) (k2 := n2 + 12) (by omega) (by omega) ?_
    exact b_Law_law_1123_ok G F K23 n1 n2 hn1 hn2 hK23 v1 v2 v3 v4 r862.2 _ h
  · rw [if_neg c865] at h
    refine V_iconst (v := 0) d_Law_law_868 (by decide) ?_
    obtain rfl := Option.some.inj h
    exact V_zret rfl (Or.inl rfl) (by show n1 + 0 + 0 ≤ 601024; omega) (by show n2 + 0 + 0 ≤ 7293034; omega) d_Law_law_869
def b_Law_law_854 (F : Nat) (sc : List Int32) (K23 : Nat → Nat → Nat → Int32 → zW → Option (Int32 × zW)) (v1 : Nat) (v2 : Nat) (v3 : Nat) (v4 : Int32) (w : zW) : Option (Int32 × zW) := b_Law_law_1123 F sc K23 v1 v2 v3 v4 w
set_option maxRecDepth 100000 in
set_option maxHeartbeats 4000000 in
theorem b_Law_law_854_ok (G : zG) (F : Nat) (K23 : Nat → Nat → Nat → Int32 → zW → Option (Int32 × zW)) (n1 n2 : Nat) (hn1 : n1 + 2 ≤ 601024) (hn2 : n2 + 12 ≤ 7293034) (hK23 : ∀ (v1 : Nat) (v2 : Nat) (v3 : Nat) (v4 : Int32) (w : zW) (r : (Int32 × zW)), K23 v1 v2 v3 v4 w = some r → zV G m_Law_law 23 [(0, .ref (gB G)), (1, .ref (z0 G + v1)), (2, .ref (z0 G + v2)), (3, .ref (z0 G + v3)), (4, .int v4)] [] w (n1 + 2) (n2 + 12) (oI r.1) r.2) (v1 : Nat) (v2 : Nat) (v3 : Nat) (v4 : Int32) (w : zW) (r : (Int32 × zW)) (h : b_Law_law_854 F (gS G) K23 v1 v2 v3 v4 w = some r) : zV G m_Law_law 854 [(0, .ref (gB G)), (1, .ref (z0 G + v1)), (2, .ref (z0 G + v2)), (3, .ref (z0 G + v3)), (4, .int v4)] [] w (n1 + 2) (n2 + 12) (oI r.1) r.2 := by
  unfold b_Law_law_854 at h
  refine V_goto (tgt := 1123) d_Law_law_854 (by decide) ?_
  exact b_Law_law_1123_ok G F K23 n1 n2 hn1 hn2 hK23 v1 v2 v3 v4 w _ h
def b_Law_law_789 (F : Nat) (sc : List Int32) (K23 : Nat → Nat → Nat → Int32 → zW → Option (Int32 × zW)) (v1 : Nat) (v2 : Nat) (v3 : Nat) (v4 : Int32) (w : zW) : Option (Int32 × zW) := (sget sc (v4 + (1 : Int32))).bind fun x795 => (sget sc (v4 + (2 : Int32))).bind fun x801 => (f_Law_about F v1 x795 x801 v3 w).bind fun r803 => (sget sc (v4 + (1 : Int32))).bind fun x814 => (sget sc (v4 + (2 : Int32))).bind fun x820 => (zobj r803.2 v2 9).bind fun _ => (f_Model_about F v2 x814 x820 r803.2).bind fun r821 => (zobj r821.2 v2 9).bind fun _ => (f_Model_thrown F v2 r821.2).bind fun r827 => if r827.1 = r803.1 then (if r803.1 = 0 then ((lget r827.2 v3 (0 : Int32)).bind fun x844 => if (lg_cmp x844 r821.1.toInt64) = 0 then (b_Law_law_854 F sc K23 v1 v2 v3 v4 r827.2) else (some ((0 : Int32), r827.2))) else (b_Law_law_854 F sc K23 v1 v2 v3 v4 r827.2)) else (some ((0 : Int32), r827.2))
set_option maxRecDepth 100000 in
set_option maxHeartbeats 4000000 in
theorem b_Law_law_789_ok (G : zG) (F : Nat) (K23 : Nat → Nat → Nat → Int32 → zW → Option (Int32 × zW)) (n1 n2 : Nat) (hn1 : n1 + 2 ≤ 601024) (hn2 : n2 + 12 ≤ 7293034) (hK23 : ∀ (v1 : Nat) (v2 : Nat) (v3 : Nat) (v4 : Int32) (w : zW) (r : (Int32 × zW)), K23 v1 v2 v3 v4 w = some r → zV G m_Law_law 23 [(0, .ref (gB G)), (1, .ref (z0 G + v1)), (2, .ref (z0 G + v2)), (3, .ref (z0 G + v3)), (4, .int v4)] [] w (n1 + 2) (n2 + 12) (oI r.1) r.2) (v1 : Nat) (v2 : Nat) (v3 : Nat) (v4 : Int32) (w : zW) (r : (Int32 × zW)) (h : b_Law_law_789 F (gS G) K23 v1 v2 v3 v4 w = some r) : zV G m_Law_law 789 [(0, .ref (gB G)), (1, .ref (z0 G + v1)), (2, .ref (z0 G + v2)), (3, .ref (z0 G + v3)), (4, .int v4)] [] w (n1 + 0) (n2 + 0) (oI r.1) r.2 := by
  unfold b_Law_law_789 at h
  refine V_aload_n (i := 1) d_Law_law_789 rfl 1 rfl ?_
  refine V_aload_n (i := 0) d_Law_law_790 rfl 0 rfl ?_
  refine V_iload (i := 4) d_Law_law_791 4 rfl ?_
  refine V_iconst (v := 1) d_Law_law_793 (by decide) ?_
  refine V_iadd d_Law_law_794 ?_
  obtain ⟨x795, e795, h⟩ := ob h
  refine V_sget d_Law_law_795 e795 ?_
  refine V_aload_n (i := 0) d_Law_law_796 rfl 0 rfl ?_
  refine V_iload (i := 4) d_Law_law_797 4 rfl ?_
  refine V_iconst (v := 2) d_Law_law_799 (by decide) ?_
  refine V_iadd d_Law_law_800 ?_
  obtain ⟨x801, e801, h⟩ := ob h
  refine V_sget d_Law_law_801 e801 ?_
  refine V_aload_n (i := 3) d_Law_law_802 rfl 3 rfl ?_
  obtain ⟨r803, e803, h⟩ := ob h
  refine V_call (v := some (.int r803.1)) (st := []) (inv_S (N := m_Law_about) (As := [.ref (z0 G + v1), .int x795, .int x801, .ref (z0 G + v3)]) d_Law_law_803 k841 k842 k0 (Or.inr kc_Law_about) y_Law_about) ⟨Or.inr kc_Law_about, k0, by decide, by decide⟩ (Nat.le_of_ble_eq_true rfl) (by show n1 + 0 + 2 ≤ 601024; omega) (by show n2 + 0 + 12 ≤ 7293034; omega) (c_Law_about G F v1 x795 x801 v3 w r803 e803) ?_
  refine V_n (k1 := n1 + 2) (k2 := n2 + 12) (Nat.le_refl _) (Nat.le_refl _) ?_
  refine V_istore (i := 5) d_Law_law_806 (by decide) rfl ?_
  refine V_aload_n (i := 2) d_Law_law_808 rfl 3 rfl ?_
  refine V_aload_n (i := 0) d_Law_law_809 rfl 1 rfl ?_
  refine V_iload (i := 4) d_Law_law_810 5 rfl ?_
  refine V_iconst (v := 1) d_Law_law_812 (by decide) ?_
  refine V_iadd d_Law_law_813 ?_
  obtain ⟨x814, e814, h⟩ := ob h
  refine V_sget d_Law_law_814 e814 ?_
  refine V_aload_n (i := 0) d_Law_law_815 rfl 1 rfl ?_
  refine V_iload (i := 4) d_Law_law_816 5 rfl ?_
  refine V_iconst (v := 2) d_Law_law_818 (by decide) ?_
  refine V_iadd d_Law_law_819 ?_
  obtain ⟨x820, e820, h⟩ := ob h
  refine V_sget d_Law_law_820 e820 ?_
  obtain ⟨_, eo821, h⟩ := ob h
  obtain ⟨r821, e821, h⟩ := ob h
  refine V_call (v := some (.int r821.1)) (st := []) (inv_V (N := m_Model_about) (As := [.int x814, .int x820]) (ci := 9) d_Law_law_821 eo821 rfl k1226 k1227 k1228 kc_Model_about y_Model_about) ⟨Or.inl kc_Model_about, k10, by decide, by decide⟩ (Nat.le_of_ble_eq_true rfl) (by show n1 + 2 + 0 ≤ 601024; omega) (by show n2 + 12 + 0 ≤ 7293034; omega) (c_Model_about G F v2 x814 x820 r803.2 r821 e821) ?_
  refine V_n (k1 := n1 + 2) (k2 := n2 + 12) (Nat.le_refl _) (Nat.le_refl _) ?_
  refine V_istore (i := 6) d_Law_law_824 (by decide) rfl ?_
  refine V_aload_n (i := 2) d_Law_law_826 rfl 4 rfl ?_
  obtain ⟨_, eo827, h⟩ := ob h
  obtain ⟨r827, e827, h⟩ := ob h
  refine V_call (v := some (.int r827.1)) (st := []) (inv_V (N := m_Model_thrown) (As := []) (ci := 9) d_Law_law_827 eo827 rfl k982 k983 k984 kc_Model_thrown y_Model_thrown) ⟨Or.inl kc_Model_thrown, k10, by decide, by decide⟩ (Nat.le_of_ble_eq_true rfl) (by show n1 + 2 + 0 ≤ 601024; omega) (by show n2 + 12 + 0 ≤ 7293034; omega) (c_Model_thrown G F v2 r821.2 r827 e827) ?_
  refine V_n (k1 := n1 + 2) (k2 := n2 + 12) (Nat.le_refl _) (Nat.le_refl _) ?_
  refine V_iload (i := 5) d_Law_law_830 1 rfl ?_
  refine V_icmp_eq (tgt := 837) d_Law_law_832 (by decide) (fun c832 => ?_) (fun c832 => ?_)
  · rw [if_pos c832] at h
    refine V_iload (i := 5) d_Law_law_837 1 rfl ?_
    refine V_if_ne (tgt := 854) d_Law_law_839 (by decide) (fun c839 => ?_) (fun c839 => ?_)
    · rw [if_neg c839] at h
      refine V_lv [2, 3, 4, 5, 6] rfl ?_
      exact b_Law_law_854_ok G F K23 n1 n2 hn1 hn2 hK23 v1 v2 v3 v4 r827.2 _ h
    · rw [if_pos c839] at h
      refine V_aload_n (i := 3) d_Law_law_842 rfl 5 rfl ?_
      refine V_iconst (v := 0) d_Law_law_843 (by decide) ?_
      obtain ⟨x844, e844, h⟩ := ob h
      refine V_lget d_Law_law_844 e844 ?_
      refine V_iload (i := 6) d_Law_law_845 0 rfl ?_
      refine V_i2l d_Law_law_847 ?_
      refine V_lcmp d_Law_law_848 ?_
      refine V_if_eq (tgt := 854) d_Law_law_849 (by decide) (fun c849 => ?_) (fun c849 => ?_)
      · rw [if_pos c849] at h
        refine V_lv [2, 3, 4, 5, 6] rfl ?_
        exact b_Law_law_854_ok G F K23 n1 n2 hn1 hn2 hK23 v1 v2 v3 v4 r827.2 _ h
      · rw [if_neg c849] at h
        refine V_iconst (v := 0) d_Law_law_852 (by decide) ?_
        obtain rfl := Option.some.inj h
        exact V_zret rfl (Or.inl rfl) (by show n1 + 2 + 0 ≤ 601024; omega) (by show n2 + 12 + 0 ≤ 7293034; omega) d_Law_law_853
  · rw [if_neg c832] at h
    refine V_iconst (v := 0) d_Law_law_835 (by decide) ?_
    obtain rfl := Option.some.inj h
    exact V_zret rfl (Or.inl rfl) (by show n1 + 2 + 0 ≤ 601024; omega) (by show n2 + 12 + 0 ≤ 7293034; omega) d_Law_law_836
def b_Law_law_786 (F : Nat) (sc : List Int32) (K23 : Nat → Nat → Nat → Int32 → zW → Option (Int32 × zW)) (v1 : Nat) (v2 : Nat) (v3 : Nat) (v4 : Int32) (w : zW) : Option (Int32 × zW) := b_Law_law_1123 F sc K23 v1 v2 v3 v4 w
set_option maxRecDepth 100000 in
set_option maxHeartbeats 4000000 in
theorem b_Law_law_786_ok (G : zG) (F : Nat) (K23 : Nat → Nat → Nat → Int32 → zW → Option (Int32 × zW)) (n1 n2 : Nat) (hn1 : n1 + 2 ≤ 601024) (hn2 : n2 + 12 ≤ 7293034) (hK23 : ∀ (v1 : Nat) (v2 : Nat) (v3 : Nat) (v4 : Int32) (w : zW) (r : (Int32 × zW)), K23 v1 v2 v3 v4 w = some r → zV G m_Law_law 23 [(0, .ref (gB G)), (1, .ref (z0 G + v1)), (2, .ref (z0 G + v2)), (3, .ref (z0 G + v3)), (4, .int v4)] [] w (n1 + 2) (n2 + 12) (oI r.1) r.2) (v1 : Nat) (v2 : Nat) (v3 : Nat) (v4 : Int32) (w : zW) (r : (Int32 × zW)) (h : b_Law_law_786 F (gS G) K23 v1 v2 v3 v4 w = some r) : zV G m_Law_law 786 [(0, .ref (gB G)), (1, .ref (z0 G + v1)), (2, .ref (z0 G + v2)), (3, .ref (z0 G + v3)), (4, .int v4)] [] w (n1 + 1) (n2 + 6) (oI r.1) r.2 := by
  unfold b_Law_law_786 at h
  refine V_goto (tgt := 1123) d_Law_law_786 (by decide) ?_
  refine V_n (k1 := n1 + 2) (k2 := n2 + 12) (by omega) (by omega) ?_
  exact b_Law_law_1123_ok G F K23 n1 n2 hn1 hn2 hK23 v1 v2 v3 v4 w _ h
def b_Law_law_745 (F : Nat) (sc : List Int32) (K23 : Nat → Nat → Nat → Int32 → zW → Option (Int32 × zW)) (v1 : Nat) (v2 : Nat) (v3 : Nat) (v4 : Int32) (w : zW) : Option (Int32 × zW) := (f_Law_count F v1 v3 w).bind fun r747 => (zobj r747.2 v2 9).bind fun _ => (f_Model_count F v2 r747.2).bind fun r753 => (zobj r753.2 v2 9).bind fun _ => (f_Model_thrown F v2 r753.2).bind fun r759 => if r759.1 = r747.1 then (if r747.1 = 0 then ((lget r759.2 v3 (0 : Int32)).bind fun x776 => if (lg_cmp x776 r753.1.toInt64) = 0 then (b_Law_law_786 F sc K23 v1 v2 v3 v4 r759.2) else (some ((0 : Int32), r759.2))) else (b_Law_law_786 F sc K23 v1 v2 v3 v4 r759.2)) else (some ((0 : Int32), r759.2))
set_option maxRecDepth 100000 in
set_option maxHeartbeats 4000000 in
theorem b_Law_law_745_ok (G : zG) (F : Nat) (K23 : Nat → Nat → Nat → Int32 → zW → Option (Int32 × zW)) (n1 n2 : Nat) (hn1 : n1 + 2 ≤ 601024) (hn2 : n2 + 12 ≤ 7293034) (hK23 : ∀ (v1 : Nat) (v2 : Nat) (v3 : Nat) (v4 : Int32) (w : zW) (r : (Int32 × zW)), K23 v1 v2 v3 v4 w = some r → zV G m_Law_law 23 [(0, .ref (gB G)), (1, .ref (z0 G + v1)), (2, .ref (z0 G + v2)), (3, .ref (z0 G + v3)), (4, .int v4)] [] w (n1 + 2) (n2 + 12) (oI r.1) r.2) (v1 : Nat) (v2 : Nat) (v3 : Nat) (v4 : Int32) (w : zW) (r : (Int32 × zW)) (h : b_Law_law_745 F (gS G) K23 v1 v2 v3 v4 w = some r) : zV G m_Law_law 745 [(0, .ref (gB G)), (1, .ref (z0 G + v1)), (2, .ref (z0 G + v2)), (3, .ref (z0 G + v3)), (4, .int v4)] [] w (n1 + 0) (n2 + 0) (oI r.1) r.2 := by
  unfold b_Law_law_745 at h
  refine V_aload_n (i := 1) d_Law_law_745 rfl 1 rfl ?_
  refine V_aload_n (i := 3) d_Law_law_746 rfl 3 rfl ?_
  obtain ⟨r747, e747, h⟩ := ob h
  refine V_call (v := some (.int r747.1)) (st := []) (inv_S (N := m_Law_count) (As := [.ref (z0 G + v1), .ref (z0 G + v3)]) d_Law_law_747 k834 k835 k0 (Or.inr kc_Law_count) y_Law_count) ⟨Or.inr kc_Law_count, k0, by decide, by decide⟩ (Nat.le_of_ble_eq_true rfl) (by show n1 + 0 + 1 ≤ 601024; omega) (by show n2 + 0 + 6 ≤ 7293034; omega) (c_Law_count G F v1 v3 w r747 e747) ?_
  refine V_n (k1 := n1 + 1) (k2 := n2 + 6) (Nat.le_refl _) (Nat.le_refl _) ?_
  refine V_istore (i := 5) d_Law_law_750 (by decide) rfl ?_
  refine V_aload_n (i := 2) d_Law_law_752 rfl 3 rfl ?_
  obtain ⟨_, eo753, h⟩ := ob h
  obtain ⟨r753, e753, h⟩ := ob h
  refine V_call (v := some (.int r753.1)) (st := []) (inv_V (N := m_Model_count) (As := []) (ci := 9) d_Law_law_753 eo753 rfl k1222 k1223 k1224 kc_Model_count y_Model_count) ⟨Or.inl kc_Model_count, k10, by decide, by decide⟩ (Nat.le_of_ble_eq_true rfl) (by show n1 + 1 + 0 ≤ 601024; omega) (by show n2 + 6 + 0 ≤ 7293034; omega) (c_Model_count G F v2 r747.2 r753 e753) ?_
  refine V_n (k1 := n1 + 1) (k2 := n2 + 6) (Nat.le_refl _) (Nat.le_refl _) ?_
  refine V_istore (i := 6) d_Law_law_756 (by decide) rfl ?_
  refine V_aload_n (i := 2) d_Law_law_758 rfl 4 rfl ?_
  obtain ⟨_, eo759, h⟩ := ob h
  obtain ⟨r759, e759, h⟩ := ob h
  refine V_call (v := some (.int r759.1)) (st := []) (inv_V (N := m_Model_thrown) (As := []) (ci := 9) d_Law_law_759 eo759 rfl k982 k983 k984 kc_Model_thrown y_Model_thrown) ⟨Or.inl kc_Model_thrown, k10, by decide, by decide⟩ (Nat.le_of_ble_eq_true rfl) (by show n1 + 1 + 0 ≤ 601024; omega) (by show n2 + 6 + 0 ≤ 7293034; omega) (c_Model_thrown G F v2 r753.2 r759 e759) ?_
  refine V_n (k1 := n1 + 1) (k2 := n2 + 6) (Nat.le_refl _) (Nat.le_refl _) ?_
  refine V_iload (i := 5) d_Law_law_762 1 rfl ?_
  refine V_icmp_eq (tgt := 769) d_Law_law_764 (by decide) (fun c764 => ?_) (fun c764 => ?_)
  · rw [if_pos c764] at h
    refine V_iload (i := 5) d_Law_law_769 1 rfl ?_
    refine V_if_ne (tgt := 786) d_Law_law_771 (by decide) (fun c771 => ?_) (fun c771 => ?_)
    · rw [if_neg c771] at h
      refine V_lv [2, 3, 4, 5, 6] rfl ?_
      exact b_Law_law_786_ok G F K23 n1 n2 hn1 hn2 hK23 v1 v2 v3 v4 r759.2 _ h
    · rw [if_pos c771] at h
      refine V_aload_n (i := 3) d_Law_law_774 rfl 5 rfl ?_
      refine V_iconst (v := 0) d_Law_law_775 (by decide) ?_
      obtain ⟨x776, e776, h⟩ := ob h
      refine V_lget d_Law_law_776 e776 ?_
      refine V_iload (i := 6) d_Law_law_777 0 rfl ?_
      refine V_i2l d_Law_law_779 ?_
      refine V_lcmp d_Law_law_780 ?_
      refine V_if_eq (tgt := 786) d_Law_law_781 (by decide) (fun c781 => ?_) (fun c781 => ?_)
      · rw [if_pos c781] at h
        refine V_lv [2, 3, 4, 5, 6] rfl ?_
        exact b_Law_law_786_ok G F K23 n1 n2 hn1 hn2 hK23 v1 v2 v3 v4 r759.2 _ h
      · rw [if_neg c781] at h
        refine V_iconst (v := 0) d_Law_law_784 (by decide) ?_
        obtain rfl := Option.some.inj h
        exact V_zret rfl (Or.inl rfl) (by show n1 + 1 + 0 ≤ 601024; omega) (by show n2 + 6 + 0 ≤ 7293034; omega) d_Law_law_785
  · rw [if_neg c764] at h
    refine V_iconst (v := 0) d_Law_law_767 (by decide) ?_
    obtain rfl := Option.some.inj h
    exact V_zret rfl (Or.inl rfl) (by show n1 + 1 + 0 ≤ 601024; omega) (by show n2 + 6 + 0 ≤ 7293034; omega) d_Law_law_768
def b_Law_law_742 (F : Nat) (sc : List Int32) (K23 : Nat → Nat → Nat → Int32 → zW → Option (Int32 × zW)) (v1 : Nat) (v2 : Nat) (v3 : Nat) (v4 : Int32) (w : zW) : Option (Int32 × zW) := b_Law_law_1123 F sc K23 v1 v2 v3 v4 w
set_option maxRecDepth 100000 in
set_option maxHeartbeats 4000000 in
theorem b_Law_law_742_ok (G : zG) (F : Nat) (K23 : Nat → Nat → Nat → Int32 → zW → Option (Int32 × zW)) (n1 n2 : Nat) (hn1 : n1 + 2 ≤ 601024) (hn2 : n2 + 12 ≤ 7293034) (hK23 : ∀ (v1 : Nat) (v2 : Nat) (v3 : Nat) (v4 : Int32) (w : zW) (r : (Int32 × zW)), K23 v1 v2 v3 v4 w = some r → zV G m_Law_law 23 [(0, .ref (gB G)), (1, .ref (z0 G + v1)), (2, .ref (z0 G + v2)), (3, .ref (z0 G + v3)), (4, .int v4)] [] w (n1 + 2) (n2 + 12) (oI r.1) r.2) (v1 : Nat) (v2 : Nat) (v3 : Nat) (v4 : Int32) (w : zW) (r : (Int32 × zW)) (h : b_Law_law_742 F (gS G) K23 v1 v2 v3 v4 w = some r) : zV G m_Law_law 742 [(0, .ref (gB G)), (1, .ref (z0 G + v1)), (2, .ref (z0 G + v2)), (3, .ref (z0 G + v3)), (4, .int v4)] [] w (n1 + 2) (n2 + 12) (oI r.1) r.2 := by
  unfold b_Law_law_742 at h
  refine V_goto (tgt := 1123) d_Law_law_742 (by decide) ?_
  exact b_Law_law_1123_ok G F K23 n1 n2 hn1 hn2 hK23 v1 v2 v3 v4 w _ h
def b_Law_law_689 (F : Nat) (sc : List Int32) (K23 : Nat → Nat → Nat → Int32 → zW → Option (Int32 × zW)) (v1 : Nat) (v2 : Nat) (v3 : Nat) (v4 : Int32) (w : zW) : Option (Int32 × zW) := (sget sc (v4 + (1 : Int32))).bind fun x695 => (f_Law_load F v1 x695 v3 w).bind fun r697 => (sget sc (v4 + (1 : Int32))).bind fun x708 => (zobj r697.2 v2 9).bind fun _ => (f_Model_load F v2 x708 r697.2).bind fun r709 => (zobj r709.2 v2 9).bind fun _ => (f_Model_thrown F v2 r709.2).bind fun r715 => if r715.1 = r697.1 then (if r697.1 = 0 then ((lget r715.2 v3 (0 : Int32)).bind fun x732 => if (lg_cmp x732 r709.1.toInt64) = 0 then (b_Law_law_742 F sc K23 v1 v2 v3 v4 r715.2) else (some ((0 : Int32), r715.2))) else (b_Law_law_742 F sc K23 v1 v2 v3 v4 r715.2)) else (some ((0 : Int32), r715.2))
set_option maxRecDepth 100000 in
set_option maxHeartbeats 4000000 in
theorem b_Law_law_689_ok (G : zG) (F : Nat) (K23 : Nat → Nat → Nat → Int32 → zW → Option (Int32 × zW)) (n1 n2 : Nat) (hn1 : n1 + 2 ≤ 601024) (hn2 : n2 + 12 ≤ 7293034) (hK23 : ∀ (v1 : Nat) (v2 : Nat) (v3 : Nat) (v4 : Int32) (w : zW) (r : (Int32 × zW)), K23 v1 v2 v3 v4 w = some r → zV G m_Law_law 23 [(0, .ref (gB G)), (1, .ref (z0 G + v1)), (2, .ref (z0 G + v2)), (3, .ref (z0 G + v3)), (4, .int v4)] [] w (n1 + 2) (n2 + 12) (oI r.1) r.2) (v1 : Nat) (v2 : Nat) (v3 : Nat) (v4 : Int32) (w : zW) (r : (Int32 × zW)) (h : b_Law_law_689 F (gS G) K23 v1 v2 v3 v4 w = some r) : zV G m_Law_law 689 [(0, .ref (gB G)), (1, .ref (z0 G + v1)), (2, .ref (z0 G + v2)), (3, .ref (z0 G + v3)), (4, .int v4)] [] w (n1 + 0) (n2 + 0) (oI r.1) r.2 := by
  unfold b_Law_law_689 at h
  refine V_aload_n (i := 1) d_Law_law_689 rfl 1 rfl ?_
  refine V_aload_n (i := 0) d_Law_law_690 rfl 0 rfl ?_
  refine V_iload (i := 4) d_Law_law_691 4 rfl ?_
  refine V_iconst (v := 1) d_Law_law_693 (by decide) ?_
  refine V_iadd d_Law_law_694 ?_
  obtain ⟨x695, e695, h⟩ := ob h
  refine V_sget d_Law_law_695 e695 ?_
  refine V_aload_n (i := 3) d_Law_law_696 rfl 3 rfl ?_
  obtain ⟨r697, e697, h⟩ := ob h
  refine V_call (v := some (.int r697.1)) (st := []) (inv_S (N := m_Law_load) (As := [.ref (z0 G + v1), .int x695, .ref (z0 G + v3)]) d_Law_law_697 k827 k828 k0 (Or.inr kc_Law_load) y_Law_load) ⟨Or.inr kc_Law_load, k0, by decide, by decide⟩ (Nat.le_of_ble_eq_true rfl) (by show n1 + 0 + 2 ≤ 601024; omega) (by show n2 + 0 + 12 ≤ 7293034; omega) (c_Law_load G F v1 x695 v3 w r697 e697) ?_
  refine V_n (k1 := n1 + 2) (k2 := n2 + 12) (Nat.le_refl _) (Nat.le_refl _) ?_
  refine V_istore (i := 5) d_Law_law_700 (by decide) rfl ?_
  refine V_aload_n (i := 2) d_Law_law_702 rfl 3 rfl ?_
  refine V_aload_n (i := 0) d_Law_law_703 rfl 1 rfl ?_
  refine V_iload (i := 4) d_Law_law_704 5 rfl ?_
  refine V_iconst (v := 1) d_Law_law_706 (by decide) ?_
  refine V_iadd d_Law_law_707 ?_
  obtain ⟨x708, e708, h⟩ := ob h
  refine V_sget d_Law_law_708 e708 ?_
  obtain ⟨_, eo709, h⟩ := ob h
  obtain ⟨r709, e709, h⟩ := ob h
  refine V_call (v := some (.int r709.1)) (st := []) (inv_V (N := m_Model_load) (As := [.int x708]) (ci := 9) d_Law_law_709 eo709 rfl k1218 k1219 k1220 kc_Model_load y_Model_load) ⟨Or.inl kc_Model_load, k10, by decide, by decide⟩ (Nat.le_of_ble_eq_true rfl) (by show n1 + 2 + 0 ≤ 601024; omega) (by show n2 + 12 + 0 ≤ 7293034; omega) (c_Model_load G F v2 x708 r697.2 r709 e709) ?_
  refine V_n (k1 := n1 + 2) (k2 := n2 + 12) (Nat.le_refl _) (Nat.le_refl _) ?_
  refine V_istore (i := 6) d_Law_law_712 (by decide) rfl ?_
  refine V_aload_n (i := 2) d_Law_law_714 rfl 4 rfl ?_
  obtain ⟨_, eo715, h⟩ := ob h
  obtain ⟨r715, e715, h⟩ := ob h
  refine V_call (v := some (.int r715.1)) (st := []) (inv_V (N := m_Model_thrown) (As := []) (ci := 9) d_Law_law_715 eo715 rfl k982 k983 k984 kc_Model_thrown y_Model_thrown) ⟨Or.inl kc_Model_thrown, k10, by decide, by decide⟩ (Nat.le_of_ble_eq_true rfl) (by show n1 + 2 + 0 ≤ 601024; omega) (by show n2 + 12 + 0 ≤ 7293034; omega) (c_Model_thrown G F v2 r709.2 r715 e715) ?_
  refine V_n (k1 := n1 + 2) (k2 := n2 + 12) (Nat.le_refl _) (Nat.le_refl _) ?_
  refine V_iload (i := 5) d_Law_law_718 1 rfl ?_
  refine V_icmp_eq (tgt := 725) d_Law_law_720 (by decide) (fun c720 => ?_) (fun c720 => ?_)
  · rw [if_pos c720] at h
    refine V_iload (i := 5) d_Law_law_725 1 rfl ?_
    refine V_if_ne (tgt := 742) d_Law_law_727 (by decide) (fun c727 => ?_) (fun c727 => ?_)
    · rw [if_neg c727] at h
      refine V_lv [2, 3, 4, 5, 6] rfl ?_
      exact b_Law_law_742_ok G F K23 n1 n2 hn1 hn2 hK23 v1 v2 v3 v4 r715.2 _ h
    · rw [if_pos c727] at h
      refine V_aload_n (i := 3) d_Law_law_730 rfl 5 rfl ?_
      refine V_iconst (v := 0) d_Law_law_731 (by decide) ?_
      obtain ⟨x732, e732, h⟩ := ob h
      refine V_lget d_Law_law_732 e732 ?_
      refine V_iload (i := 6) d_Law_law_733 0 rfl ?_
      refine V_i2l d_Law_law_735 ?_
      refine V_lcmp d_Law_law_736 ?_
      refine V_if_eq (tgt := 742) d_Law_law_737 (by decide) (fun c737 => ?_) (fun c737 => ?_)
      · rw [if_pos c737] at h
        refine V_lv [2, 3, 4, 5, 6] rfl ?_
        exact b_Law_law_742_ok G F K23 n1 n2 hn1 hn2 hK23 v1 v2 v3 v4 r715.2 _ h
      · rw [if_neg c737] at h
        refine V_iconst (v := 0) d_Law_law_740 (by decide) ?_
        obtain rfl := Option.some.inj h
        exact V_zret rfl (Or.inl rfl) (by show n1 + 2 + 0 ≤ 601024; omega) (by show n2 + 12 + 0 ≤ 7293034; omega) d_Law_law_741
  · rw [if_neg c720] at h
    refine V_iconst (v := 0) d_Law_law_723 (by decide) ?_
    obtain rfl := Option.some.inj h
    exact V_zret rfl (Or.inl rfl) (by show n1 + 2 + 0 ≤ 601024; omega) (by show n2 + 12 + 0 ≤ 7293034; omega) d_Law_law_724
def b_Law_law_686 (F : Nat) (sc : List Int32) (K23 : Nat → Nat → Nat → Int32 → zW → Option (Int32 × zW)) (v1 : Nat) (v2 : Nat) (v3 : Nat) (v4 : Int32) (w : zW) : Option (Int32 × zW) := b_Law_law_1123 F sc K23 v1 v2 v3 v4 w
set_option maxRecDepth 100000 in
set_option maxHeartbeats 4000000 in
theorem b_Law_law_686_ok (G : zG) (F : Nat) (K23 : Nat → Nat → Nat → Int32 → zW → Option (Int32 × zW)) (n1 n2 : Nat) (hn1 : n1 + 2 ≤ 601024) (hn2 : n2 + 12 ≤ 7293034) (hK23 : ∀ (v1 : Nat) (v2 : Nat) (v3 : Nat) (v4 : Int32) (w : zW) (r : (Int32 × zW)), K23 v1 v2 v3 v4 w = some r → zV G m_Law_law 23 [(0, .ref (gB G)), (1, .ref (z0 G + v1)), (2, .ref (z0 G + v2)), (3, .ref (z0 G + v3)), (4, .int v4)] [] w (n1 + 2) (n2 + 12) (oI r.1) r.2) (v1 : Nat) (v2 : Nat) (v3 : Nat) (v4 : Int32) (w : zW) (r : (Int32 × zW)) (h : b_Law_law_686 F (gS G) K23 v1 v2 v3 v4 w = some r) : zV G m_Law_law 686 [(0, .ref (gB G)), (1, .ref (z0 G + v1)), (2, .ref (z0 G + v2)), (3, .ref (z0 G + v3)), (4, .int v4)] [] w (n1 + 2) (n2 + 12) (oI r.1) r.2 := by
  unfold b_Law_law_686 at h
  refine V_goto (tgt := 1123) d_Law_law_686 (by decide) ?_
  exact b_Law_law_1123_ok G F K23 n1 n2 hn1 hn2 hK23 v1 v2 v3 v4 w _ h
def b_Law_law_633 (F : Nat) (sc : List Int32) (K23 : Nat → Nat → Nat → Int32 → zW → Option (Int32 × zW)) (v1 : Nat) (v2 : Nat) (v3 : Nat) (v4 : Int32) (w : zW) : Option (Int32 × zW) := (sget sc (v4 + (1 : Int32))).bind fun x639 => (f_Law_remove F v1 x639 v3 w).bind fun r641 => (sget sc (v4 + (1 : Int32))).bind fun x652 => (zobj r641.2 v2 9).bind fun _ => (f_Model_remove F v2 x652 r641.2).bind fun r653 => (zobj r653.2 v2 9).bind fun _ => (f_Model_thrown F v2 r653.2).bind fun r659 => if r659.1 = r641.1 then (if r641.1 = 0 then ((lget r659.2 v3 (0 : Int32)).bind fun x676 => if (lg_cmp x676 r653.1.toInt64) = 0 then (b_Law_law_686 F sc K23 v1 v2 v3 v4 r659.2) else (some ((0 : Int32), r659.2))) else (b_Law_law_686 F sc K23 v1 v2 v3 v4 r659.2)) else (some ((0 : Int32), r659.2))
set_option maxRecDepth 100000 in
set_option maxHeartbeats 4000000 in
theorem b_Law_law_633_ok (G : zG) (F : Nat) (K23 : Nat → Nat → Nat → Int32 → zW → Option (Int32 × zW)) (n1 n2 : Nat) (hn1 : n1 + 2 ≤ 601024) (hn2 : n2 + 12 ≤ 7293034) (hK23 : ∀ (v1 : Nat) (v2 : Nat) (v3 : Nat) (v4 : Int32) (w : zW) (r : (Int32 × zW)), K23 v1 v2 v3 v4 w = some r → zV G m_Law_law 23 [(0, .ref (gB G)), (1, .ref (z0 G + v1)), (2, .ref (z0 G + v2)), (3, .ref (z0 G + v3)), (4, .int v4)] [] w (n1 + 2) (n2 + 12) (oI r.1) r.2) (v1 : Nat) (v2 : Nat) (v3 : Nat) (v4 : Int32) (w : zW) (r : (Int32 × zW)) (h : b_Law_law_633 F (gS G) K23 v1 v2 v3 v4 w = some r) : zV G m_Law_law 633 [(0, .ref (gB G)), (1, .ref (z0 G + v1)), (2, .ref (z0 G + v2)), (3, .ref (z0 G + v3)), (4, .int v4)] [] w (n1 + 0) (n2 + 0) (oI r.1) r.2 := by
  unfold b_Law_law_633 at h
  refine V_aload_n (i := 1) d_Law_law_633 rfl 1 rfl ?_
  refine V_aload_n (i := 0) d_Law_law_634 rfl 0 rfl ?_
  refine V_iload (i := 4) d_Law_law_635 4 rfl ?_
  refine V_iconst (v := 1) d_Law_law_637 (by decide) ?_
  refine V_iadd d_Law_law_638 ?_
  obtain ⟨x639, e639, h⟩ := ob h
  refine V_sget d_Law_law_639 e639 ?_
  refine V_aload_n (i := 3) d_Law_law_640 rfl 3 rfl ?_
  obtain ⟨r641, e641, h⟩ := ob h
  refine V_call (v := some (.int r641.1)) (st := []) (inv_S (N := m_Law_remove) (As := [.ref (z0 G + v1), .int x639, .ref (z0 G + v3)]) d_Law_law_641 k804 k805 k0 (Or.inr kc_Law_remove) y_Law_remove) ⟨Or.inr kc_Law_remove, k0, by decide, by decide⟩ (Nat.le_of_ble_eq_true rfl) (by show n1 + 0 + 2 ≤ 601024; omega) (by show n2 + 0 + 12 ≤ 7293034; omega) (c_Law_remove G F v1 x639 v3 w r641 e641) ?_
  refine V_n (k1 := n1 + 2) (k2 := n2 + 12) (Nat.le_refl _) (Nat.le_refl _) ?_
  refine V_istore (i := 5) d_Law_law_644 (by decide) rfl ?_
  refine V_aload_n (i := 2) d_Law_law_646 rfl 3 rfl ?_
  refine V_aload_n (i := 0) d_Law_law_647 rfl 1 rfl ?_
  refine V_iload (i := 4) d_Law_law_648 5 rfl ?_
  refine V_iconst (v := 1) d_Law_law_650 (by decide) ?_
  refine V_iadd d_Law_law_651 ?_
  obtain ⟨x652, e652, h⟩ := ob h
  refine V_sget d_Law_law_652 e652 ?_
  obtain ⟨_, eo653, h⟩ := ob h
  obtain ⟨r653, e653, h⟩ := ob h
  refine V_call (v := some (.int r653.1)) (st := []) (inv_V (N := m_Model_remove) (As := [.int x652]) (ci := 9) d_Law_law_653 eo653 rfl k1304 k1305 k1306 kc_Model_remove y_Model_remove) ⟨Or.inl kc_Model_remove, k10, by decide, by decide⟩ (Nat.le_of_ble_eq_true rfl) (by show n1 + 2 + 0 ≤ 601024; omega) (by show n2 + 12 + 0 ≤ 7293034; omega) (c_Model_remove G F v2 x652 r641.2 r653 e653) ?_
  refine V_n (k1 := n1 + 2) (k2 := n2 + 12) (Nat.le_refl _) (Nat.le_refl _) ?_
  refine V_istore (i := 6) d_Law_law_656 (by decide) rfl ?_
  refine V_aload_n (i := 2) d_Law_law_658 rfl 4 rfl ?_
  obtain ⟨_, eo659, h⟩ := ob h
  obtain ⟨r659, e659, h⟩ := ob h
  refine V_call (v := some (.int r659.1)) (st := []) (inv_V (N := m_Model_thrown) (As := []) (ci := 9) d_Law_law_659 eo659 rfl k982 k983 k984 kc_Model_thrown y_Model_thrown) ⟨Or.inl kc_Model_thrown, k10, by decide, by decide⟩ (Nat.le_of_ble_eq_true rfl) (by show n1 + 2 + 0 ≤ 601024; omega) (by show n2 + 12 + 0 ≤ 7293034; omega) (c_Model_thrown G F v2 r653.2 r659 e659) ?_
  refine V_n (k1 := n1 + 2) (k2 := n2 + 12) (Nat.le_refl _) (Nat.le_refl _) ?_
  refine V_iload (i := 5) d_Law_law_662 1 rfl ?_
  refine V_icmp_eq (tgt := 669) d_Law_law_664 (by decide) (fun c664 => ?_) (fun c664 => ?_)
  · rw [if_pos c664] at h
    refine V_iload (i := 5) d_Law_law_669 1 rfl ?_
    refine V_if_ne (tgt := 686) d_Law_law_671 (by decide) (fun c671 => ?_) (fun c671 => ?_)
    · rw [if_neg c671] at h
      refine V_lv [2, 3, 4, 5, 6] rfl ?_
      exact b_Law_law_686_ok G F K23 n1 n2 hn1 hn2 hK23 v1 v2 v3 v4 r659.2 _ h
    · rw [if_pos c671] at h
      refine V_aload_n (i := 3) d_Law_law_674 rfl 5 rfl ?_
      refine V_iconst (v := 0) d_Law_law_675 (by decide) ?_
      obtain ⟨x676, e676, h⟩ := ob h
      refine V_lget d_Law_law_676 e676 ?_
      refine V_iload (i := 6) d_Law_law_677 0 rfl ?_
      refine V_i2l d_Law_law_679 ?_
      refine V_lcmp d_Law_law_680 ?_
      refine V_if_eq (tgt := 686) d_Law_law_681 (by decide) (fun c681 => ?_) (fun c681 => ?_)
      · rw [if_pos c681] at h
        refine V_lv [2, 3, 4, 5, 6] rfl ?_
        exact b_Law_law_686_ok G F K23 n1 n2 hn1 hn2 hK23 v1 v2 v3 v4 r659.2 _ h
      · rw [if_neg c681] at h
        refine V_iconst (v := 0) d_Law_law_684 (by decide) ?_
        obtain rfl := Option.some.inj h
        exact V_zret rfl (Or.inl rfl) (by show n1 + 2 + 0 ≤ 601024; omega) (by show n2 + 12 + 0 ≤ 7293034; omega) d_Law_law_685
  · rw [if_neg c664] at h
    refine V_iconst (v := 0) d_Law_law_667 (by decide) ?_
    obtain rfl := Option.some.inj h
    exact V_zret rfl (Or.inl rfl) (by show n1 + 2 + 0 ≤ 601024; omega) (by show n2 + 12 + 0 ≤ 7293034; omega) d_Law_law_668
def b_Law_law_630 (F : Nat) (sc : List Int32) (K23 : Nat → Nat → Nat → Int32 → zW → Option (Int32 × zW)) (v1 : Nat) (v2 : Nat) (v3 : Nat) (v4 : Int32) (w : zW) : Option (Int32 × zW) := b_Law_law_1123 F sc K23 v1 v2 v3 v4 w
set_option maxRecDepth 100000 in
set_option maxHeartbeats 4000000 in
theorem b_Law_law_630_ok (G : zG) (F : Nat) (K23 : Nat → Nat → Nat → Int32 → zW → Option (Int32 × zW)) (n1 n2 : Nat) (hn1 : n1 + 2 ≤ 601024) (hn2 : n2 + 12 ≤ 7293034) (hK23 : ∀ (v1 : Nat) (v2 : Nat) (v3 : Nat) (v4 : Int32) (w : zW) (r : (Int32 × zW)), K23 v1 v2 v3 v4 w = some r → zV G m_Law_law 23 [(0, .ref (gB G)), (1, .ref (z0 G + v1)), (2, .ref (z0 G + v2)), (3, .ref (z0 G + v3)), (4, .int v4)] [] w (n1 + 2) (n2 + 12) (oI r.1) r.2) (v1 : Nat) (v2 : Nat) (v3 : Nat) (v4 : Int32) (w : zW) (r : (Int32 × zW)) (h : b_Law_law_630 F (gS G) K23 v1 v2 v3 v4 w = some r) : zV G m_Law_law 630 [(0, .ref (gB G)), (1, .ref (z0 G + v1)), (2, .ref (z0 G + v2)), (3, .ref (z0 G + v3)), (4, .int v4)] [] w (n1 + 2) (n2 + 12) (oI r.1) r.2 := by
  unfold b_Law_law_630 at h
  refine V_goto (tgt := 1123) d_Law_law_630 (by decide) ?_
  exact b_Law_law_1123_ok G F K23 n1 n2 hn1 hn2 hK23 v1 v2 v3 v4 w _ h
def b_Law_law_597 (F : Nat) (sc : List Int32) (K23 : Nat → Nat → Nat → Int32 → zW → Option (Int32 × zW)) (v1 : Nat) (v2 : Nat) (v3 : Nat) (v4 : Int32) (v5 : Int32) (s0 : Nat) (s1 : Int32) (s2 : Int32) (s3 : Int32) (w : zW) : Option (Int32 × zW) := (zobj w s0 9).bind fun _ => (f_Model_add F s0 s1 s2 s3 w).bind fun r597 => (zobj r597.2 v2 9).bind fun _ => (f_Model_thrown F v2 r597.2).bind fun r603 => if r603.1 = v5 then (if v5 = 0 then ((lget r603.2 v3 (0 : Int32)).bind fun x620 => if (lg_cmp x620 r597.1.toInt64) = 0 then (b_Law_law_630 F sc K23 v1 v2 v3 v4 r603.2) else (some ((0 : Int32), r603.2))) else (b_Law_law_630 F sc K23 v1 v2 v3 v4 r603.2)) else (some ((0 : Int32), r603.2))
set_option maxRecDepth 100000 in
set_option maxHeartbeats 4000000 in
theorem b_Law_law_597_ok (G : zG) (F : Nat) (K23 : Nat → Nat → Nat → Int32 → zW → Option (Int32 × zW)) (n1 n2 : Nat) (hn1 : n1 + 2 ≤ 601024) (hn2 : n2 + 12 ≤ 7293034) (hK23 : ∀ (v1 : Nat) (v2 : Nat) (v3 : Nat) (v4 : Int32) (w : zW) (r : (Int32 × zW)), K23 v1 v2 v3 v4 w = some r → zV G m_Law_law 23 [(0, .ref (gB G)), (1, .ref (z0 G + v1)), (2, .ref (z0 G + v2)), (3, .ref (z0 G + v3)), (4, .int v4)] [] w (n1 + 2) (n2 + 12) (oI r.1) r.2) (v1 : Nat) (v2 : Nat) (v3 : Nat) (v4 : Int32) (v5 : Int32) (s0 : Nat) (s1 : Int32) (s2 : Int32) (s3 : Int32) (w : zW) (r : (Int32 × zW)) (h : b_Law_law_597 F (gS G) K23 v1 v2 v3 v4 v5 s0 s1 s2 s3 w = some r) : zV G m_Law_law 597 [(0, .ref (gB G)), (1, .ref (z0 G + v1)), (2, .ref (z0 G + v2)), (3, .ref (z0 G + v3)), (4, .int v4), (5, .int v5)] [.int s3, .int s2, .int s1, .ref (z0 G + s0)] w (n1 + 2) (n2 + 12) (oI r.1) r.2 := by
  unfold b_Law_law_597 at h
  obtain ⟨_, eo597, h⟩ := ob h
  obtain ⟨r597, e597, h⟩ := ob h
  refine V_call (v := some (.int r597.1)) (st := []) (inv_V (N := m_Model_add) (As := [.int s1, .int s2, .int s3]) (ci := 9) d_Law_law_597 eo597 rfl k1252 k1253 k1254 kc_Model_add y_Model_add) ⟨Or.inl kc_Model_add, k10, by decide, by decide⟩ (Nat.le_of_ble_eq_true rfl) (by show n1 + 2 + 0 ≤ 601024; omega) (by show n2 + 12 + 0 ≤ 7293034; omega) (c_Model_add G F s0 s1 s2 s3 w r597 e597) ?_
  refine V_n (k1 := n1 + 2) (k2 := n2 + 12) (Nat.le_refl _) (Nat.le_refl _) ?_
  refine V_istore (i := 6) d_Law_law_600 (by decide) rfl ?_
  refine V_aload_n (i := 2) d_Law_law_602 rfl 3 rfl ?_
  obtain ⟨_, eo603, h⟩ := ob h
  obtain ⟨r603, e603, h⟩ := ob h
  refine V_call (v := some (.int r603.1)) (st := []) (inv_V (N := m_Model_thrown) (As := []) (ci := 9) d_Law_law_603 eo603 rfl k982 k983 k984 kc_Model_thrown y_Model_thrown) ⟨Or.inl kc_Model_thrown, k10, by decide, by decide⟩ (Nat.le_of_ble_eq_true rfl) (by show n1 + 2 + 0 ≤ 601024; omega) (by show n2 + 12 + 0 ≤ 7293034; omega) (c_Model_thrown G F v2 r597.2 r603 e603) ?_
  refine V_n (k1 := n1 + 2) (k2 := n2 + 12) (Nat.le_refl _) (Nat.le_refl _) ?_
  refine V_iload (i := 5) d_Law_law_606 6 rfl ?_
  refine V_icmp_eq (tgt := 613) d_Law_law_608 (by decide) (fun c608 => ?_) (fun c608 => ?_)
  · rw [if_pos c608] at h
    refine V_iload (i := 5) d_Law_law_613 6 rfl ?_
    refine V_if_ne (tgt := 630) d_Law_law_615 (by decide) (fun c615 => ?_) (fun c615 => ?_)
    · rw [if_neg c615] at h
      refine V_lv [1, 2, 3, 4, 5] rfl ?_
      exact b_Law_law_630_ok G F K23 n1 n2 hn1 hn2 hK23 v1 v2 v3 v4 r603.2 _ h
    · rw [if_pos c615] at h
      refine V_aload_n (i := 3) d_Law_law_618 rfl 4 rfl ?_
      refine V_iconst (v := 0) d_Law_law_619 (by decide) ?_
      obtain ⟨x620, e620, h⟩ := ob h
      refine V_lget d_Law_law_620 e620 ?_
      refine V_iload (i := 6) d_Law_law_621 0 rfl ?_
      refine V_i2l d_Law_law_623 ?_
      refine V_lcmp d_Law_law_624 ?_
      refine V_if_eq (tgt := 630) d_Law_law_625 (by decide) (fun c625 => ?_) (fun c625 => ?_)
      · rw [if_pos c625] at h
        refine V_lv [1, 2, 3, 4, 5] rfl ?_
        exact b_Law_law_630_ok G F K23 n1 n2 hn1 hn2 hK23 v1 v2 v3 v4 r603.2 _ h
      · rw [if_neg c625] at h
        refine V_iconst (v := 0) d_Law_law_628 (by decide) ?_
        obtain rfl := Option.some.inj h
        exact V_zret rfl (Or.inl rfl) (by show n1 + 2 + 0 ≤ 601024; omega) (by show n2 + 12 + 0 ≤ 7293034; omega) d_Law_law_629
  · rw [if_neg c608] at h
    refine V_iconst (v := 0) d_Law_law_611 (by decide) ?_
    obtain rfl := Option.some.inj h
    exact V_zret rfl (Or.inl rfl) (by show n1 + 2 + 0 ≤ 601024; omega) (by show n2 + 12 + 0 ≤ 7293034; omega) d_Law_law_612
def b_Law_law_564 (F : Nat) (sc : List Int32) (K23 : Nat → Nat → Nat → Int32 → zW → Option (Int32 × zW)) (v1 : Nat) (v2 : Nat) (v3 : Nat) (v4 : Int32) (s0 : Nat) (s1 : Int32) (s2 : Int32) (s3 : Int32) (w : zW) : Option (Int32 × zW) := (f_Law_add F s0 s1 s2 s3 v3 w).bind fun r565 => (sget sc (v4 + (1 : Int32))).bind fun x576 => (sget sc (v4 + (2 : Int32))).bind fun x582 => (sget sc (v4 + (3 : Int32))).bind fun x588 => if x588 = 0 then (b_Law_law_597 F sc K23 v1 v2 v3 v4 r565.1 v2 x576 x582 (0 : Int32) r565.2) else (b_Law_law_597 F sc K23 v1 v2 v3 v4 r565.1 v2 x576 x582 (1 : Int32) r565.2)
set_option maxRecDepth 100000 in
set_option maxHeartbeats 4000000 in
theorem b_Law_law_564_ok (G : zG) (F : Nat) (K23 : Nat → Nat → Nat → Int32 → zW → Option (Int32 × zW)) (n1 n2 : Nat) (hn1 : n1 + 2 ≤ 601024) (hn2 : n2 + 12 ≤ 7293034) (hK23 : ∀ (v1 : Nat) (v2 : Nat) (v3 : Nat) (v4 : Int32) (w : zW) (r : (Int32 × zW)), K23 v1 v2 v3 v4 w = some r → zV G m_Law_law 23 [(0, .ref (gB G)), (1, .ref (z0 G + v1)), (2, .ref (z0 G + v2)), (3, .ref (z0 G + v3)), (4, .int v4)] [] w (n1 + 2) (n2 + 12) (oI r.1) r.2) (v1 : Nat) (v2 : Nat) (v3 : Nat) (v4 : Int32) (s0 : Nat) (s1 : Int32) (s2 : Int32) (s3 : Int32) (w : zW) (r : (Int32 × zW)) (h : b_Law_law_564 F (gS G) K23 v1 v2 v3 v4 s0 s1 s2 s3 w = some r) : zV G m_Law_law 564 [(0, .ref (gB G)), (1, .ref (z0 G + v1)), (2, .ref (z0 G + v2)), (3, .ref (z0 G + v3)), (4, .int v4)] [.int s3, .int s2, .int s1, .ref (z0 G + s0)] w (n1 + 0) (n2 + 0) (oI r.1) r.2 := by
  unfold b_Law_law_564 at h
  refine V_aload_n (i := 3) d_Law_law_564 rfl 3 rfl ?_
  obtain ⟨r565, e565, h⟩ := ob h
  refine V_call (v := some (.int r565.1)) (st := []) (inv_S (N := m_Law_add) (As := [.ref (z0 G + s0), .int s1, .int s2, .int s3, .ref (z0 G + v3)]) d_Law_law_565 k730 k731 k0 (Or.inr kc_Law_add) y_Law_add) ⟨Or.inr kc_Law_add, k0, by decide, by decide⟩ (Nat.le_of_ble_eq_true rfl) (by show n1 + 0 + 2 ≤ 601024; omega) (by show n2 + 0 + 12 ≤ 7293034; omega) (c_Law_add G F s0 s1 s2 s3 v3 w r565 e565) ?_
  refine V_n (k1 := n1 + 2) (k2 := n2 + 12) (Nat.le_refl _) (Nat.le_refl _) ?_
  refine V_istore (i := 5) d_Law_law_568 (by decide) rfl ?_
  refine V_aload_n (i := 2) d_Law_law_570 rfl 3 rfl ?_
  refine V_aload_n (i := 0) d_Law_law_571 rfl 1 rfl ?_
  refine V_iload (i := 4) d_Law_law_572 5 rfl ?_
  refine V_iconst (v := 1) d_Law_law_574 (by decide) ?_
  refine V_iadd d_Law_law_575 ?_
  obtain ⟨x576, e576, h⟩ := ob h
  refine V_sget d_Law_law_576 e576 ?_
  refine V_aload_n (i := 0) d_Law_law_577 rfl 1 rfl ?_
  refine V_iload (i := 4) d_Law_law_578 5 rfl ?_
  refine V_iconst (v := 2) d_Law_law_580 (by decide) ?_
  refine V_iadd d_Law_law_581 ?_
  obtain ⟨x582, e582, h⟩ := ob h
  refine V_sget d_Law_law_582 e582 ?_
  refine V_aload_n (i := 0) d_Law_law_583 rfl 1 rfl ?_
  refine V_iload (i := 4) d_Law_law_584 5 rfl ?_
  refine V_iconst (v := 3) d_Law_law_586 (by decide) ?_
  refine V_iadd d_Law_law_587 ?_
  obtain ⟨x588, e588, h⟩ := ob h
  refine V_sget d_Law_law_588 e588 ?_
  refine V_if_eq (tgt := 596) d_Law_law_589 (by decide) (fun c589 => ?_) (fun c589 => ?_)
  · rw [if_pos c589] at h
    refine V_iconst (v := 0) d_Law_law_596 (by decide) ?_
    refine V_lv [1, 2, 3, 4, 5, 0] rfl ?_
    exact b_Law_law_597_ok G F K23 n1 n2 hn1 hn2 hK23 v1 v2 v3 v4 r565.1 v2 x576 x582 (0 : Int32) r565.2 _ h
  · rw [if_neg c589] at h
    refine V_iconst (v := 1) d_Law_law_592 (by decide) ?_
    refine V_goto (tgt := 597) d_Law_law_593 (by decide) ?_
    refine V_lv [1, 2, 3, 4, 5, 0] rfl ?_
    exact b_Law_law_597_ok G F K23 n1 n2 hn1 hn2 hK23 v1 v2 v3 v4 r565.1 v2 x576 x582 (1 : Int32) r565.2 _ h
def b_Law_law_537 (F : Nat) (sc : List Int32) (K23 : Nat → Nat → Nat → Int32 → zW → Option (Int32 × zW)) (v1 : Nat) (v2 : Nat) (v3 : Nat) (v4 : Int32) (w : zW) : Option (Int32 × zW) := (sget sc (v4 + (1 : Int32))).bind fun x543 => (sget sc (v4 + (2 : Int32))).bind fun x549 => (sget sc (v4 + (3 : Int32))).bind fun x555 => if x555 = 0 then (b_Law_law_564 F sc K23 v1 v2 v3 v4 v1 x543 x549 (0 : Int32) w) else (b_Law_law_564 F sc K23 v1 v2 v3 v4 v1 x543 x549 (1 : Int32) w)
set_option maxRecDepth 100000 in
set_option maxHeartbeats 4000000 in
theorem b_Law_law_537_ok (G : zG) (F : Nat) (K23 : Nat → Nat → Nat → Int32 → zW → Option (Int32 × zW)) (n1 n2 : Nat) (hn1 : n1 + 2 ≤ 601024) (hn2 : n2 + 12 ≤ 7293034) (hK23 : ∀ (v1 : Nat) (v2 : Nat) (v3 : Nat) (v4 : Int32) (w : zW) (r : (Int32 × zW)), K23 v1 v2 v3 v4 w = some r → zV G m_Law_law 23 [(0, .ref (gB G)), (1, .ref (z0 G + v1)), (2, .ref (z0 G + v2)), (3, .ref (z0 G + v3)), (4, .int v4)] [] w (n1 + 2) (n2 + 12) (oI r.1) r.2) (v1 : Nat) (v2 : Nat) (v3 : Nat) (v4 : Int32) (w : zW) (r : (Int32 × zW)) (h : b_Law_law_537 F (gS G) K23 v1 v2 v3 v4 w = some r) : zV G m_Law_law 537 [(0, .ref (gB G)), (1, .ref (z0 G + v1)), (2, .ref (z0 G + v2)), (3, .ref (z0 G + v3)), (4, .int v4)] [] w (n1 + 0) (n2 + 0) (oI r.1) r.2 := by
  unfold b_Law_law_537 at h
  refine V_aload_n (i := 1) d_Law_law_537 rfl 1 rfl ?_
  refine V_aload_n (i := 0) d_Law_law_538 rfl 0 rfl ?_
  refine V_iload (i := 4) d_Law_law_539 4 rfl ?_
  refine V_iconst (v := 1) d_Law_law_541 (by decide) ?_
  refine V_iadd d_Law_law_542 ?_
  obtain ⟨x543, e543, h⟩ := ob h
  refine V_sget d_Law_law_543 e543 ?_
  refine V_aload_n (i := 0) d_Law_law_544 rfl 0 rfl ?_
  refine V_iload (i := 4) d_Law_law_545 4 rfl ?_
  refine V_iconst (v := 2) d_Law_law_547 (by decide) ?_
  refine V_iadd d_Law_law_548 ?_
  obtain ⟨x549, e549, h⟩ := ob h
  refine V_sget d_Law_law_549 e549 ?_
  refine V_aload_n (i := 0) d_Law_law_550 rfl 0 rfl ?_
  refine V_iload (i := 4) d_Law_law_551 4 rfl ?_
  refine V_iconst (v := 3) d_Law_law_553 (by decide) ?_
  refine V_iadd d_Law_law_554 ?_
  obtain ⟨x555, e555, h⟩ := ob h
  refine V_sget d_Law_law_555 e555 ?_
  refine V_if_eq (tgt := 563) d_Law_law_556 (by decide) (fun c556 => ?_) (fun c556 => ?_)
  · rw [if_pos c556] at h
    refine V_iconst (v := 0) d_Law_law_563 (by decide) ?_
    exact b_Law_law_564_ok G F K23 n1 n2 hn1 hn2 hK23 v1 v2 v3 v4 v1 x543 x549 (0 : Int32) w _ h
  · rw [if_neg c556] at h
    refine V_iconst (v := 1) d_Law_law_559 (by decide) ?_
    refine V_goto (tgt := 564) d_Law_law_560 (by decide) ?_
    exact b_Law_law_564_ok G F K23 n1 n2 hn1 hn2 hK23 v1 v2 v3 v4 v1 x543 x549 (1 : Int32) w _ h
def b_Law_law_531 (F : Nat) (sc : List Int32) (K23 : Nat → Nat → Nat → Int32 → zW → Option (Int32 × zW)) (v1 : Nat) (v2 : Nat) (v3 : Nat) (v4 : Int32) (s0 : Nat) (s1 : Int32) (w : zW) : Option (Int32 × zW) := (zobj w s0 9).bind fun _ => (f_Model_wide F s0 s1 w).bind fun r531 => b_Law_law_1123 F sc K23 v1 v2 v3 v4 r531.2
set_option maxRecDepth 100000 in
set_option maxHeartbeats 4000000 in
theorem b_Law_law_531_ok (G : zG) (F : Nat) (K23 : Nat → Nat → Nat → Int32 → zW → Option (Int32 × zW)) (n1 n2 : Nat) (hn1 : n1 + 2 ≤ 601024) (hn2 : n2 + 12 ≤ 7293034) (hK23 : ∀ (v1 : Nat) (v2 : Nat) (v3 : Nat) (v4 : Int32) (w : zW) (r : (Int32 × zW)), K23 v1 v2 v3 v4 w = some r → zV G m_Law_law 23 [(0, .ref (gB G)), (1, .ref (z0 G + v1)), (2, .ref (z0 G + v2)), (3, .ref (z0 G + v3)), (4, .int v4)] [] w (n1 + 2) (n2 + 12) (oI r.1) r.2) (v1 : Nat) (v2 : Nat) (v3 : Nat) (v4 : Int32) (s0 : Nat) (s1 : Int32) (w : zW) (r : (Int32 × zW)) (h : b_Law_law_531 F (gS G) K23 v1 v2 v3 v4 s0 s1 w = some r) : zV G m_Law_law 531 [(0, .ref (gB G)), (1, .ref (z0 G + v1)), (2, .ref (z0 G + v2)), (3, .ref (z0 G + v3)), (4, .int v4)] [.int s1, .ref (z0 G + s0)] w (n1 + 0) (n2 + 0) (oI r.1) r.2 := by
  unfold b_Law_law_531 at h
  obtain ⟨_, eo531, h⟩ := ob h
  obtain ⟨r531, e531, h⟩ := ob h
  refine V_call (v := none) (st := []) (inv_V (N := m_Model_wide) (As := [.int s1]) (ci := 9) d_Law_law_531 eo531 rfl k1248 k1249 k1250 kc_Model_wide y_Model_wide) ⟨Or.inl kc_Model_wide, k10, by decide, by decide⟩ (Nat.le_of_ble_eq_true rfl) (by show n1 + 0 + 0 ≤ 601024; omega) (by show n2 + 0 + 0 ≤ 7293034; omega) (c_Model_wide G F s0 s1 w r531 e531) ?_
  refine V_n (k1 := n1 + 0) (k2 := n2 + 0) (Nat.le_refl _) (Nat.le_refl _) ?_
  refine V_goto (tgt := 1123) d_Law_law_534 (by decide) ?_
  refine V_n (k1 := n1 + 2) (k2 := n2 + 12) (by omega) (by omega) ?_
  exact b_Law_law_1123_ok G F K23 n1 n2 hn1 hn2 hK23 v1 v2 v3 v4 r531.2 _ h
def b_Law_law_513 (F : Nat) (sc : List Int32) (K23 : Nat → Nat → Nat → Int32 → zW → Option (Int32 × zW)) (v1 : Nat) (v2 : Nat) (v3 : Nat) (v4 : Int32) (s0 : Nat) (s1 : Int32) (w : zW) : Option (Int32 × zW) := (zobj w s0 8).bind fun _ => (f_Zip_wide F s0 s1 w).bind fun r513 => (sget sc (v4 + (1 : Int32))).bind fun x522 => if x522 = 0 then (b_Law_law_531 F sc K23 v1 v2 v3 v4 v2 (0 : Int32) r513.2) else (b_Law_law_531 F sc K23 v1 v2 v3 v4 v2 (1 : Int32) r513.2)
set_option maxRecDepth 100000 in
set_option maxHeartbeats 4000000 in
theorem b_Law_law_513_ok (G : zG) (F : Nat) (K23 : Nat → Nat → Nat → Int32 → zW → Option (Int32 × zW)) (n1 n2 : Nat) (hn1 : n1 + 2 ≤ 601024) (hn2 : n2 + 12 ≤ 7293034) (hK23 : ∀ (v1 : Nat) (v2 : Nat) (v3 : Nat) (v4 : Int32) (w : zW) (r : (Int32 × zW)), K23 v1 v2 v3 v4 w = some r → zV G m_Law_law 23 [(0, .ref (gB G)), (1, .ref (z0 G + v1)), (2, .ref (z0 G + v2)), (3, .ref (z0 G + v3)), (4, .int v4)] [] w (n1 + 2) (n2 + 12) (oI r.1) r.2) (v1 : Nat) (v2 : Nat) (v3 : Nat) (v4 : Int32) (s0 : Nat) (s1 : Int32) (w : zW) (r : (Int32 × zW)) (h : b_Law_law_513 F (gS G) K23 v1 v2 v3 v4 s0 s1 w = some r) : zV G m_Law_law 513 [(0, .ref (gB G)), (1, .ref (z0 G + v1)), (2, .ref (z0 G + v2)), (3, .ref (z0 G + v3)), (4, .int v4)] [.int s1, .ref (z0 G + s0)] w (n1 + 0) (n2 + 0) (oI r.1) r.2 := by
  unfold b_Law_law_513 at h
  obtain ⟨_, eo513, h⟩ := ob h
  obtain ⟨r513, e513, h⟩ := ob h
  refine V_call (v := none) (st := []) (inv_V (N := m_Zip_wide) (As := [.int s1]) (ci := 8) d_Law_law_513 eo513 rfl k352 k353 k354 kc_Zip_wide y_Zip_wide) ⟨Or.inl kc_Zip_wide, k1, by decide, by decide⟩ (Nat.le_of_ble_eq_true rfl) (by show n1 + 0 + 0 ≤ 601024; omega) (by show n2 + 0 + 0 ≤ 7293034; omega) (c_Zip_wide G F s0 s1 w r513 e513) ?_
  refine V_n (k1 := n1 + 0) (k2 := n2 + 0) (Nat.le_refl _) (Nat.le_refl _) ?_
  refine V_aload_n (i := 2) d_Law_law_516 rfl 2 rfl ?_
  refine V_aload_n (i := 0) d_Law_law_517 rfl 0 rfl ?_
  refine V_iload (i := 4) d_Law_law_518 4 rfl ?_
  refine V_iconst (v := 1) d_Law_law_520 (by decide) ?_
  refine V_iadd d_Law_law_521 ?_
  obtain ⟨x522, e522, h⟩ := ob h
  refine V_sget d_Law_law_522 e522 ?_
  refine V_if_eq (tgt := 530) d_Law_law_523 (by decide) (fun c523 => ?_) (fun c523 => ?_)
  · rw [if_pos c523] at h
    refine V_iconst (v := 0) d_Law_law_530 (by decide) ?_
    exact b_Law_law_531_ok G F K23 n1 n2 hn1 hn2 hK23 v1 v2 v3 v4 v2 (0 : Int32) r513.2 _ h
  · rw [if_neg c523] at h
    refine V_iconst (v := 1) d_Law_law_526 (by decide) ?_
    refine V_goto (tgt := 531) d_Law_law_527 (by decide) ?_
    exact b_Law_law_531_ok G F K23 n1 n2 hn1 hn2 hK23 v1 v2 v3 v4 v2 (1 : Int32) r513.2 _ h
def b_Law_law_498 (F : Nat) (sc : List Int32) (K23 : Nat → Nat → Nat → Int32 → zW → Option (Int32 × zW)) (v1 : Nat) (v2 : Nat) (v3 : Nat) (v4 : Int32) (w : zW) : Option (Int32 × zW) := (sget sc (v4 + (1 : Int32))).bind fun x504 => if x504 = 0 then (b_Law_law_513 F sc K23 v1 v2 v3 v4 v1 (0 : Int32) w) else (b_Law_law_513 F sc K23 v1 v2 v3 v4 v1 (1 : Int32) w)
set_option maxRecDepth 100000 in
set_option maxHeartbeats 4000000 in
theorem b_Law_law_498_ok (G : zG) (F : Nat) (K23 : Nat → Nat → Nat → Int32 → zW → Option (Int32 × zW)) (n1 n2 : Nat) (hn1 : n1 + 2 ≤ 601024) (hn2 : n2 + 12 ≤ 7293034) (hK23 : ∀ (v1 : Nat) (v2 : Nat) (v3 : Nat) (v4 : Int32) (w : zW) (r : (Int32 × zW)), K23 v1 v2 v3 v4 w = some r → zV G m_Law_law 23 [(0, .ref (gB G)), (1, .ref (z0 G + v1)), (2, .ref (z0 G + v2)), (3, .ref (z0 G + v3)), (4, .int v4)] [] w (n1 + 2) (n2 + 12) (oI r.1) r.2) (v1 : Nat) (v2 : Nat) (v3 : Nat) (v4 : Int32) (w : zW) (r : (Int32 × zW)) (h : b_Law_law_498 F (gS G) K23 v1 v2 v3 v4 w = some r) : zV G m_Law_law 498 [(0, .ref (gB G)), (1, .ref (z0 G + v1)), (2, .ref (z0 G + v2)), (3, .ref (z0 G + v3)), (4, .int v4)] [] w (n1 + 0) (n2 + 0) (oI r.1) r.2 := by
  unfold b_Law_law_498 at h
  refine V_aload_n (i := 1) d_Law_law_498 rfl 1 rfl ?_
  refine V_aload_n (i := 0) d_Law_law_499 rfl 0 rfl ?_
  refine V_iload (i := 4) d_Law_law_500 4 rfl ?_
  refine V_iconst (v := 1) d_Law_law_502 (by decide) ?_
  refine V_iadd d_Law_law_503 ?_
  obtain ⟨x504, e504, h⟩ := ob h
  refine V_sget d_Law_law_504 e504 ?_
  refine V_if_eq (tgt := 512) d_Law_law_505 (by decide) (fun c505 => ?_) (fun c505 => ?_)
  · rw [if_pos c505] at h
    refine V_iconst (v := 0) d_Law_law_512 (by decide) ?_
    exact b_Law_law_513_ok G F K23 n1 n2 hn1 hn2 hK23 v1 v2 v3 v4 v1 (0 : Int32) w _ h
  · rw [if_neg c505] at h
    refine V_iconst (v := 1) d_Law_law_508 (by decide) ?_
    refine V_goto (tgt := 513) d_Law_law_509 (by decide) ?_
    exact b_Law_law_513_ok G F K23 n1 n2 hn1 hn2 hK23 v1 v2 v3 v4 v1 (1 : Int32) w _ h
def b_Law_law_487 (F : Nat) (sc : List Int32) (K23 : Nat → Nat → Nat → Int32 → zW → Option (Int32 × zW)) (v1 : Nat) (v2 : Nat) (v3 : Nat) (v4 : Int32) (w : zW) : Option (Int32 × zW) := (zobj w v1 8).bind fun _ => (f_Zip_create F v1 w).bind fun r488 => (zobj r488.2 v2 9).bind fun _ => (f_Model_create F v2 r488.2).bind fun r492 => b_Law_law_1123 F sc K23 v1 v2 v3 v4 r492.2
set_option maxRecDepth 100000 in
set_option maxHeartbeats 4000000 in
theorem b_Law_law_487_ok (G : zG) (F : Nat) (K23 : Nat → Nat → Nat → Int32 → zW → Option (Int32 × zW)) (n1 n2 : Nat) (hn1 : n1 + 2 ≤ 601024) (hn2 : n2 + 12 ≤ 7293034) (hK23 : ∀ (v1 : Nat) (v2 : Nat) (v3 : Nat) (v4 : Int32) (w : zW) (r : (Int32 × zW)), K23 v1 v2 v3 v4 w = some r → zV G m_Law_law 23 [(0, .ref (gB G)), (1, .ref (z0 G + v1)), (2, .ref (z0 G + v2)), (3, .ref (z0 G + v3)), (4, .int v4)] [] w (n1 + 2) (n2 + 12) (oI r.1) r.2) (v1 : Nat) (v2 : Nat) (v3 : Nat) (v4 : Int32) (w : zW) (r : (Int32 × zW)) (h : b_Law_law_487 F (gS G) K23 v1 v2 v3 v4 w = some r) : zV G m_Law_law 487 [(0, .ref (gB G)), (1, .ref (z0 G + v1)), (2, .ref (z0 G + v2)), (3, .ref (z0 G + v3)), (4, .int v4)] [] w (n1 + 0) (n2 + 0) (oI r.1) r.2 := by
  unfold b_Law_law_487 at h
  refine V_aload_n (i := 1) d_Law_law_487 rfl 1 rfl ?_
  obtain ⟨_, eo488, h⟩ := ob h
  obtain ⟨r488, e488, h⟩ := ob h
  refine V_call (v := none) (st := []) (inv_V (N := m_Zip_create) (As := []) (ci := 8) d_Law_law_488 eo488 rfl k304 k305 k306 kc_Zip_create y_Zip_create) ⟨Or.inl kc_Zip_create, k1, by decide, by decide⟩ (Nat.le_of_ble_eq_true rfl) (by show n1 + 0 + 0 ≤ 601024; omega) (by show n2 + 0 + 0 ≤ 7293034; omega) (c_Zip_create G F v1 w r488 e488) ?_
  refine V_n (k1 := n1 + 0) (k2 := n2 + 0) (Nat.le_refl _) (Nat.le_refl _) ?_
  refine V_aload_n (i := 2) d_Law_law_491 rfl 2 rfl ?_
  obtain ⟨_, eo492, h⟩ := ob h
  obtain ⟨r492, e492, h⟩ := ob h
  refine V_call (v := none) (st := []) (inv_V (N := m_Model_create) (As := []) (ci := 9) d_Law_law_492 eo492 rfl k1231 k1232 k1233 kc_Model_create y_Model_create) ⟨Or.inl kc_Model_create, k10, by decide, by decide⟩ (Nat.le_of_ble_eq_true rfl) (by show n1 + 0 + 0 ≤ 601024; omega) (by show n2 + 0 + 0 ≤ 7293034; omega) (c_Model_create G F v2 r488.2 r492 e492) ?_
  refine V_n (k1 := n1 + 0) (k2 := n2 + 0) (Nat.le_refl _) (Nat.le_refl _) ?_
  refine V_goto (tgt := 1123) d_Law_law_495 (by decide) ?_
  refine V_n (k1 := n1 + 2) (k2 := n2 + 12) (by omega) (by omega) ?_
  exact b_Law_law_1123_ok G F K23 n1 n2 hn1 hn2 hK23 v1 v2 v3 v4 r492.2 _ h
def b_Law_law_484 (F : Nat) (sc : List Int32) (K23 : Nat → Nat → Nat → Int32 → zW → Option (Int32 × zW)) (v1 : Nat) (v2 : Nat) (v3 : Nat) (v4 : Int32) (w : zW) : Option (Int32 × zW) := b_Law_law_1123 F sc K23 v1 v2 v3 v4 w
set_option maxRecDepth 100000 in
set_option maxHeartbeats 4000000 in
theorem b_Law_law_484_ok (G : zG) (F : Nat) (K23 : Nat → Nat → Nat → Int32 → zW → Option (Int32 × zW)) (n1 n2 : Nat) (hn1 : n1 + 2 ≤ 601024) (hn2 : n2 + 12 ≤ 7293034) (hK23 : ∀ (v1 : Nat) (v2 : Nat) (v3 : Nat) (v4 : Int32) (w : zW) (r : (Int32 × zW)), K23 v1 v2 v3 v4 w = some r → zV G m_Law_law 23 [(0, .ref (gB G)), (1, .ref (z0 G + v1)), (2, .ref (z0 G + v2)), (3, .ref (z0 G + v3)), (4, .int v4)] [] w (n1 + 2) (n2 + 12) (oI r.1) r.2) (v1 : Nat) (v2 : Nat) (v3 : Nat) (v4 : Int32) (w : zW) (r : (Int32 × zW)) (h : b_Law_law_484 F (gS G) K23 v1 v2 v3 v4 w = some r) : zV G m_Law_law 484 [(0, .ref (gB G)), (1, .ref (z0 G + v1)), (2, .ref (z0 G + v2)), (3, .ref (z0 G + v3)), (4, .int v4)] [] w (n1 + 1) (n2 + 6) (oI r.1) r.2 := by
  unfold b_Law_law_484 at h
  refine V_goto (tgt := 1123) d_Law_law_484 (by decide) ?_
  refine V_n (k1 := n1 + 2) (k2 := n2 + 12) (by omega) (by omega) ?_
  exact b_Law_law_1123_ok G F K23 n1 n2 hn1 hn2 hK23 v1 v2 v3 v4 w _ h
def b_Law_law_443 (F : Nat) (sc : List Int32) (K23 : Nat → Nat → Nat → Int32 → zW → Option (Int32 × zW)) (v1 : Nat) (v2 : Nat) (v3 : Nat) (v4 : Int32) (w : zW) : Option (Int32 × zW) := (f_Law_unpack F v1 v3 w).bind fun r445 => (zobj r445.2 v2 9).bind fun _ => (f_Model_unpack F v2 r445.2).bind fun r451 => (zobj r451.2 v2 9).bind fun _ => (f_Model_thrown F v2 r451.2).bind fun r457 => if r457.1 = r445.1 then (if r445.1 = 0 then ((lget r457.2 v3 (0 : Int32)).bind fun x474 => if (lg_cmp x474 r451.1.toInt64) = 0 then (b_Law_law_484 F sc K23 v1 v2 v3 v4 r457.2) else (some ((0 : Int32), r457.2))) else (b_Law_law_484 F sc K23 v1 v2 v3 v4 r457.2)) else (some ((0 : Int32), r457.2))
set_option maxRecDepth 100000 in
set_option maxHeartbeats 4000000 in
theorem b_Law_law_443_ok (G : zG) (F : Nat) (K23 : Nat → Nat → Nat → Int32 → zW → Option (Int32 × zW)) (n1 n2 : Nat) (hn1 : n1 + 2 ≤ 601024) (hn2 : n2 + 12 ≤ 7293034) (hK23 : ∀ (v1 : Nat) (v2 : Nat) (v3 : Nat) (v4 : Int32) (w : zW) (r : (Int32 × zW)), K23 v1 v2 v3 v4 w = some r → zV G m_Law_law 23 [(0, .ref (gB G)), (1, .ref (z0 G + v1)), (2, .ref (z0 G + v2)), (3, .ref (z0 G + v3)), (4, .int v4)] [] w (n1 + 2) (n2 + 12) (oI r.1) r.2) (v1 : Nat) (v2 : Nat) (v3 : Nat) (v4 : Int32) (w : zW) (r : (Int32 × zW)) (h : b_Law_law_443 F (gS G) K23 v1 v2 v3 v4 w = some r) : zV G m_Law_law 443 [(0, .ref (gB G)), (1, .ref (z0 G + v1)), (2, .ref (z0 G + v2)), (3, .ref (z0 G + v3)), (4, .int v4)] [] w (n1 + 0) (n2 + 0) (oI r.1) r.2 := by
  unfold b_Law_law_443 at h
  refine V_aload_n (i := 1) d_Law_law_443 rfl 1 rfl ?_
  refine V_aload_n (i := 3) d_Law_law_444 rfl 3 rfl ?_
  obtain ⟨r445, e445, h⟩ := ob h
  refine V_call (v := some (.int r445.1)) (st := []) (inv_S (N := m_Law_unpack) (As := [.ref (z0 G + v1), .ref (z0 G + v3)]) d_Law_law_445 k707 k708 k0 (Or.inr kc_Law_unpack) y_Law_unpack) ⟨Or.inr kc_Law_unpack, k0, by decide, by decide⟩ (Nat.le_of_ble_eq_true rfl) (by show n1 + 0 + 1 ≤ 601024; omega) (by show n2 + 0 + 6 ≤ 7293034; omega) (c_Law_unpack G F v1 v3 w r445 e445) ?_
  refine V_n (k1 := n1 + 1) (k2 := n2 + 6) (Nat.le_refl _) (Nat.le_refl _) ?_
  refine V_istore (i := 5) d_Law_law_448 (by decide) rfl ?_
  refine V_aload_n (i := 2) d_Law_law_450 rfl 3 rfl ?_
  obtain ⟨_, eo451, h⟩ := ob h
  obtain ⟨r451, e451, h⟩ := ob h
  refine V_call (v := some (.int r451.1)) (st := []) (inv_V (N := m_Model_unpack) (As := []) (ci := 9) d_Law_law_451 eo451 rfl k1081 k1082 k1083 kc_Model_unpack y_Model_unpack) ⟨Or.inl kc_Model_unpack, k10, by decide, by decide⟩ (Nat.le_of_ble_eq_true rfl) (by show n1 + 1 + 0 ≤ 601024; omega) (by show n2 + 6 + 0 ≤ 7293034; omega) (c_Model_unpack G F v2 r445.2 r451 e451) ?_
  refine V_n (k1 := n1 + 1) (k2 := n2 + 6) (Nat.le_refl _) (Nat.le_refl _) ?_
  refine V_istore (i := 6) d_Law_law_454 (by decide) rfl ?_
  refine V_aload_n (i := 2) d_Law_law_456 rfl 4 rfl ?_
  obtain ⟨_, eo457, h⟩ := ob h
  obtain ⟨r457, e457, h⟩ := ob h
  refine V_call (v := some (.int r457.1)) (st := []) (inv_V (N := m_Model_thrown) (As := []) (ci := 9) d_Law_law_457 eo457 rfl k982 k983 k984 kc_Model_thrown y_Model_thrown) ⟨Or.inl kc_Model_thrown, k10, by decide, by decide⟩ (Nat.le_of_ble_eq_true rfl) (by show n1 + 1 + 0 ≤ 601024; omega) (by show n2 + 6 + 0 ≤ 7293034; omega) (c_Model_thrown G F v2 r451.2 r457 e457) ?_
  refine V_n (k1 := n1 + 1) (k2 := n2 + 6) (Nat.le_refl _) (Nat.le_refl _) ?_
  refine V_iload (i := 5) d_Law_law_460 1 rfl ?_
  refine V_icmp_eq (tgt := 467) d_Law_law_462 (by decide) (fun c462 => ?_) (fun c462 => ?_)
  · rw [if_pos c462] at h
    refine V_iload (i := 5) d_Law_law_467 1 rfl ?_
    refine V_if_ne (tgt := 484) d_Law_law_469 (by decide) (fun c469 => ?_) (fun c469 => ?_)
    · rw [if_neg c469] at h
      refine V_lv [2, 3, 4, 5, 6] rfl ?_
      exact b_Law_law_484_ok G F K23 n1 n2 hn1 hn2 hK23 v1 v2 v3 v4 r457.2 _ h
    · rw [if_pos c469] at h
      refine V_aload_n (i := 3) d_Law_law_472 rfl 5 rfl ?_
      refine V_iconst (v := 0) d_Law_law_473 (by decide) ?_
      obtain ⟨x474, e474, h⟩ := ob h
      refine V_lget d_Law_law_474 e474 ?_
      refine V_iload (i := 6) d_Law_law_475 0 rfl ?_
      refine V_i2l d_Law_law_477 ?_
      refine V_lcmp d_Law_law_478 ?_
      refine V_if_eq (tgt := 484) d_Law_law_479 (by decide) (fun c479 => ?_) (fun c479 => ?_)
      · rw [if_pos c479] at h
        refine V_lv [2, 3, 4, 5, 6] rfl ?_
        exact b_Law_law_484_ok G F K23 n1 n2 hn1 hn2 hK23 v1 v2 v3 v4 r457.2 _ h
      · rw [if_neg c479] at h
        refine V_iconst (v := 0) d_Law_law_482 (by decide) ?_
        obtain rfl := Option.some.inj h
        exact V_zret rfl (Or.inl rfl) (by show n1 + 1 + 0 ≤ 601024; omega) (by show n2 + 6 + 0 ≤ 7293034; omega) d_Law_law_483
  · rw [if_neg c462] at h
    refine V_iconst (v := 0) d_Law_law_465 (by decide) ?_
    obtain rfl := Option.some.inj h
    exact V_zret rfl (Or.inl rfl) (by show n1 + 1 + 0 ≤ 601024; omega) (by show n2 + 6 + 0 ≤ 7293034; omega) d_Law_law_466
def b_Law_law_440 (F : Nat) (sc : List Int32) (K23 : Nat → Nat → Nat → Int32 → zW → Option (Int32 × zW)) (v1 : Nat) (v2 : Nat) (v3 : Nat) (v4 : Int32) (w : zW) : Option (Int32 × zW) := b_Law_law_1123 F sc K23 v1 v2 v3 v4 w
set_option maxRecDepth 100000 in
set_option maxHeartbeats 4000000 in
theorem b_Law_law_440_ok (G : zG) (F : Nat) (K23 : Nat → Nat → Nat → Int32 → zW → Option (Int32 × zW)) (n1 n2 : Nat) (hn1 : n1 + 2 ≤ 601024) (hn2 : n2 + 12 ≤ 7293034) (hK23 : ∀ (v1 : Nat) (v2 : Nat) (v3 : Nat) (v4 : Int32) (w : zW) (r : (Int32 × zW)), K23 v1 v2 v3 v4 w = some r → zV G m_Law_law 23 [(0, .ref (gB G)), (1, .ref (z0 G + v1)), (2, .ref (z0 G + v2)), (3, .ref (z0 G + v3)), (4, .int v4)] [] w (n1 + 2) (n2 + 12) (oI r.1) r.2) (v1 : Nat) (v2 : Nat) (v3 : Nat) (v4 : Int32) (w : zW) (r : (Int32 × zW)) (h : b_Law_law_440 F (gS G) K23 v1 v2 v3 v4 w = some r) : zV G m_Law_law 440 [(0, .ref (gB G)), (1, .ref (z0 G + v1)), (2, .ref (z0 G + v2)), (3, .ref (z0 G + v3)), (4, .int v4)] [] w (n1 + 1) (n2 + 6) (oI r.1) r.2 := by
  unfold b_Law_law_440 at h
  refine V_goto (tgt := 1123) d_Law_law_440 (by decide) ?_
  refine V_n (k1 := n1 + 2) (k2 := n2 + 12) (by omega) (by omega) ?_
  exact b_Law_law_1123_ok G F K23 n1 n2 hn1 hn2 hK23 v1 v2 v3 v4 w _ h
def b_Law_law_399 (F : Nat) (sc : List Int32) (K23 : Nat → Nat → Nat → Int32 → zW → Option (Int32 × zW)) (v1 : Nat) (v2 : Nat) (v3 : Nat) (v4 : Int32) (w : zW) : Option (Int32 × zW) := (f_Law_pack F v1 v3 w).bind fun r401 => (zobj r401.2 v2 9).bind fun _ => (f_Model_pack F v2 r401.2).bind fun r407 => (zobj r407.2 v2 9).bind fun _ => (f_Model_thrown F v2 r407.2).bind fun r413 => if r413.1 = r401.1 then (if r401.1 = 0 then ((lget r413.2 v3 (0 : Int32)).bind fun x430 => if (lg_cmp x430 r407.1.toInt64) = 0 then (b_Law_law_440 F sc K23 v1 v2 v3 v4 r413.2) else (some ((0 : Int32), r413.2))) else (b_Law_law_440 F sc K23 v1 v2 v3 v4 r413.2)) else (some ((0 : Int32), r413.2))
set_option maxRecDepth 100000 in
set_option maxHeartbeats 4000000 in
theorem b_Law_law_399_ok (G : zG) (F : Nat) (K23 : Nat → Nat → Nat → Int32 → zW → Option (Int32 × zW)) (n1 n2 : Nat) (hn1 : n1 + 2 ≤ 601024) (hn2 : n2 + 12 ≤ 7293034) (hK23 : ∀ (v1 : Nat) (v2 : Nat) (v3 : Nat) (v4 : Int32) (w : zW) (r : (Int32 × zW)), K23 v1 v2 v3 v4 w = some r → zV G m_Law_law 23 [(0, .ref (gB G)), (1, .ref (z0 G + v1)), (2, .ref (z0 G + v2)), (3, .ref (z0 G + v3)), (4, .int v4)] [] w (n1 + 2) (n2 + 12) (oI r.1) r.2) (v1 : Nat) (v2 : Nat) (v3 : Nat) (v4 : Int32) (w : zW) (r : (Int32 × zW)) (h : b_Law_law_399 F (gS G) K23 v1 v2 v3 v4 w = some r) : zV G m_Law_law 399 [(0, .ref (gB G)), (1, .ref (z0 G + v1)), (2, .ref (z0 G + v2)), (3, .ref (z0 G + v3)), (4, .int v4)] [] w (n1 + 0) (n2 + 0) (oI r.1) r.2 := by
  unfold b_Law_law_399 at h
  refine V_aload_n (i := 1) d_Law_law_399 rfl 1 rfl ?_
  refine V_aload_n (i := 3) d_Law_law_400 rfl 3 rfl ?_
  obtain ⟨r401, e401, h⟩ := ob h
  refine V_call (v := some (.int r401.1)) (st := []) (inv_S (N := m_Law_pack) (As := [.ref (z0 G + v1), .ref (z0 G + v3)]) d_Law_law_401 k663 k664 k0 (Or.inr kc_Law_pack) y_Law_pack) ⟨Or.inr kc_Law_pack, k0, by decide, by decide⟩ (Nat.le_of_ble_eq_true rfl) (by show n1 + 0 + 1 ≤ 601024; omega) (by show n2 + 0 + 6 ≤ 7293034; omega) (c_Law_pack G F v1 v3 w r401 e401) ?_
  refine V_n (k1 := n1 + 1) (k2 := n2 + 6) (Nat.le_refl _) (Nat.le_refl _) ?_
  refine V_istore (i := 5) d_Law_law_404 (by decide) rfl ?_
  refine V_aload_n (i := 2) d_Law_law_406 rfl 3 rfl ?_
  obtain ⟨_, eo407, h⟩ := ob h
  obtain ⟨r407, e407, h⟩ := ob h
  refine V_call (v := some (.int r407.1)) (st := []) (inv_V (N := m_Model_pack) (As := []) (ci := 9) d_Law_law_407 eo407 rfl k1024 k1025 k1026 kc_Model_pack y_Model_pack) ⟨Or.inl kc_Model_pack, k10, by decide, by decide⟩ (Nat.le_of_ble_eq_true rfl) (by show n1 + 1 + 0 ≤ 601024; omega) (by show n2 + 6 + 0 ≤ 7293034; omega) (c_Model_pack G F v2 r401.2 r407 e407) ?_
  refine V_n (k1 := n1 + 1) (k2 := n2 + 6) (Nat.le_refl _) (Nat.le_refl _) ?_
  refine V_istore (i := 6) d_Law_law_410 (by decide) rfl ?_
  refine V_aload_n (i := 2) d_Law_law_412 rfl 4 rfl ?_
  obtain ⟨_, eo413, h⟩ := ob h
  obtain ⟨r413, e413, h⟩ := ob h
  refine V_call (v := some (.int r413.1)) (st := []) (inv_V (N := m_Model_thrown) (As := []) (ci := 9) d_Law_law_413 eo413 rfl k982 k983 k984 kc_Model_thrown y_Model_thrown) ⟨Or.inl kc_Model_thrown, k10, by decide, by decide⟩ (Nat.le_of_ble_eq_true rfl) (by show n1 + 1 + 0 ≤ 601024; omega) (by show n2 + 6 + 0 ≤ 7293034; omega) (c_Model_thrown G F v2 r407.2 r413 e413) ?_
  refine V_n (k1 := n1 + 1) (k2 := n2 + 6) (Nat.le_refl _) (Nat.le_refl _) ?_
  refine V_iload (i := 5) d_Law_law_416 1 rfl ?_
  refine V_icmp_eq (tgt := 423) d_Law_law_418 (by decide) (fun c418 => ?_) (fun c418 => ?_)
  · rw [if_pos c418] at h
    refine V_iload (i := 5) d_Law_law_423 1 rfl ?_
    refine V_if_ne (tgt := 440) d_Law_law_425 (by decide) (fun c425 => ?_) (fun c425 => ?_)
    · rw [if_neg c425] at h
      refine V_lv [2, 3, 4, 5, 6] rfl ?_
      exact b_Law_law_440_ok G F K23 n1 n2 hn1 hn2 hK23 v1 v2 v3 v4 r413.2 _ h
    · rw [if_pos c425] at h
      refine V_aload_n (i := 3) d_Law_law_428 rfl 5 rfl ?_
      refine V_iconst (v := 0) d_Law_law_429 (by decide) ?_
      obtain ⟨x430, e430, h⟩ := ob h
      refine V_lget d_Law_law_430 e430 ?_
      refine V_iload (i := 6) d_Law_law_431 0 rfl ?_
      refine V_i2l d_Law_law_433 ?_
      refine V_lcmp d_Law_law_434 ?_
      refine V_if_eq (tgt := 440) d_Law_law_435 (by decide) (fun c435 => ?_) (fun c435 => ?_)
      · rw [if_pos c435] at h
        refine V_lv [2, 3, 4, 5, 6] rfl ?_
        exact b_Law_law_440_ok G F K23 n1 n2 hn1 hn2 hK23 v1 v2 v3 v4 r413.2 _ h
      · rw [if_neg c435] at h
        refine V_iconst (v := 0) d_Law_law_438 (by decide) ?_
        obtain rfl := Option.some.inj h
        exact V_zret rfl (Or.inl rfl) (by show n1 + 1 + 0 ≤ 601024; omega) (by show n2 + 6 + 0 ≤ 7293034; omega) d_Law_law_439
  · rw [if_neg c418] at h
    refine V_iconst (v := 0) d_Law_law_421 (by decide) ?_
    obtain rfl := Option.some.inj h
    exact V_zret rfl (Or.inl rfl) (by show n1 + 1 + 0 ≤ 601024; omega) (by show n2 + 6 + 0 ≤ 7293034; omega) d_Law_law_422
def b_Law_law_386 (F : Nat) (sc : List Int32) (K23 : Nat → Nat → Nat → Int32 → zW → Option (Int32 × zW)) (v1 : Nat) (v2 : Nat) (v3 : Nat) (v4 : Int32) (w : zW) : Option (Int32 × zW) := (zobj w v1 8).bind fun _ => (f_Zip_crc F v1 w).bind fun r387 => (zobj r387.2 v2 9).bind fun _ => (f_Model_crc F v2 r387.2).bind fun r391 => if r387.1 = r391.1 then (b_Law_law_1123 F sc K23 v1 v2 v3 v4 r391.2) else (some ((0 : Int32), r391.2))
set_option maxRecDepth 100000 in
set_option maxHeartbeats 4000000 in
theorem b_Law_law_386_ok (G : zG) (F : Nat) (K23 : Nat → Nat → Nat → Int32 → zW → Option (Int32 × zW)) (n1 n2 : Nat) (hn1 : n1 + 2 ≤ 601024) (hn2 : n2 + 12 ≤ 7293034) (hK23 : ∀ (v1 : Nat) (v2 : Nat) (v3 : Nat) (v4 : Int32) (w : zW) (r : (Int32 × zW)), K23 v1 v2 v3 v4 w = some r → zV G m_Law_law 23 [(0, .ref (gB G)), (1, .ref (z0 G + v1)), (2, .ref (z0 G + v2)), (3, .ref (z0 G + v3)), (4, .int v4)] [] w (n1 + 2) (n2 + 12) (oI r.1) r.2) (v1 : Nat) (v2 : Nat) (v3 : Nat) (v4 : Int32) (w : zW) (r : (Int32 × zW)) (h : b_Law_law_386 F (gS G) K23 v1 v2 v3 v4 w = some r) : zV G m_Law_law 386 [(0, .ref (gB G)), (1, .ref (z0 G + v1)), (2, .ref (z0 G + v2)), (3, .ref (z0 G + v3)), (4, .int v4)] [] w (n1 + 0) (n2 + 0) (oI r.1) r.2 := by
  unfold b_Law_law_386 at h
  refine V_aload_n (i := 1) d_Law_law_386 rfl 1 rfl ?_
  obtain ⟨_, eo387, h⟩ := ob h
  obtain ⟨r387, e387, h⟩ := ob h
  refine V_call (v := some (.int r387.1)) (st := []) (inv_V (N := m_Zip_crc) (As := []) (ci := 8) d_Law_law_387 eo387 rfl k295 k296 k297 kc_Zip_crc y_Zip_crc) ⟨Or.inl kc_Zip_crc, k1, by decide, by decide⟩ (Nat.le_of_ble_eq_true rfl) (by show n1 + 0 + 0 ≤ 601024; omega) (by show n2 + 0 + 0 ≤ 7293034; omega) (c_Zip_crc G F v1 w r387 e387) ?_
  refine V_n (k1 := n1 + 0) (k2 := n2 + 0) (Nat.le_refl _) (Nat.le_refl _) ?_
  refine V_aload_n (i := 2) d_Law_law_390 rfl 2 rfl ?_
  obtain ⟨_, eo391, h⟩ := ob h
  obtain ⟨r391, e391, h⟩ := ob h
  refine V_call (v := some (.int r391.1)) (st := [.int r387.1]) (inv_V (N := m_Model_crc) (As := []) (ci := 9) d_Law_law_391 eo391 rfl k1012 k1013 k1014 kc_Model_crc y_Model_crc) ⟨Or.inl kc_Model_crc, k10, by decide, by decide⟩ (Nat.le_of_ble_eq_true rfl) (by show n1 + 0 + 0 ≤ 601024; omega) (by show n2 + 0 + 0 ≤ 7293034; omega) (c_Model_crc G F v2 r387.2 r391 e391) ?_
  refine V_n (k1 := n1 + 0) (k2 := n2 + 0) (Nat.le_refl _) (Nat.le_refl _) ?_
  refine V_icmp_eq (tgt := 1123) d_Law_law_394 (by decide) (fun c394 => ?_) (fun c394 => ?_)
  · rw [if_pos c394] at h
    refine V_n (k1 := n1 + 2) (k2 := n2 + 12) (by omega) (by omega) ?_
    exact b_Law_law_1123_ok G F K23 n1 n2 hn1 hn2 hK23 v1 v2 v3 v4 r391.2 _ h
  · rw [if_neg c394] at h
    refine V_iconst (v := 0) d_Law_law_397 (by decide) ?_
    obtain rfl := Option.some.inj h
    exact V_zret rfl (Or.inl rfl) (by show n1 + 0 + 0 ≤ 601024; omega) (by show n2 + 0 + 0 ≤ 7293034; omega) d_Law_law_398
def b_Law_law_383 (F : Nat) (sc : List Int32) (K23 : Nat → Nat → Nat → Int32 → zW → Option (Int32 × zW)) (v1 : Nat) (v2 : Nat) (v3 : Nat) (v4 : Int32) (w : zW) : Option (Int32 × zW) := b_Law_law_1123 F sc K23 v1 v2 v3 v4 w
set_option maxRecDepth 100000 in
set_option maxHeartbeats 4000000 in
theorem b_Law_law_383_ok (G : zG) (F : Nat) (K23 : Nat → Nat → Nat → Int32 → zW → Option (Int32 × zW)) (n1 n2 : Nat) (hn1 : n1 + 2 ≤ 601024) (hn2 : n2 + 12 ≤ 7293034) (hK23 : ∀ (v1 : Nat) (v2 : Nat) (v3 : Nat) (v4 : Int32) (w : zW) (r : (Int32 × zW)), K23 v1 v2 v3 v4 w = some r → zV G m_Law_law 23 [(0, .ref (gB G)), (1, .ref (z0 G + v1)), (2, .ref (z0 G + v2)), (3, .ref (z0 G + v3)), (4, .int v4)] [] w (n1 + 2) (n2 + 12) (oI r.1) r.2) (v1 : Nat) (v2 : Nat) (v3 : Nat) (v4 : Int32) (w : zW) (r : (Int32 × zW)) (h : b_Law_law_383 F (gS G) K23 v1 v2 v3 v4 w = some r) : zV G m_Law_law 383 [(0, .ref (gB G)), (1, .ref (z0 G + v1)), (2, .ref (z0 G + v2)), (3, .ref (z0 G + v3)), (4, .int v4)] [] w (n1 + 1) (n2 + 6) (oI r.1) r.2 := by
  unfold b_Law_law_383 at h
  refine V_goto (tgt := 1123) d_Law_law_383 (by decide) ?_
  refine V_n (k1 := n1 + 2) (k2 := n2 + 12) (by omega) (by omega) ?_
  exact b_Law_law_1123_ok G F K23 n1 n2 hn1 hn2 hK23 v1 v2 v3 v4 w _ h
def b_Law_law_330 (F : Nat) (sc : List Int32) (K23 : Nat → Nat → Nat → Int32 → zW → Option (Int32 × zW)) (v1 : Nat) (v2 : Nat) (v3 : Nat) (v4 : Int32) (w : zW) : Option (Int32 × zW) := (sget sc (v4 + (1 : Int32))).bind fun x336 => (f_Law_at F v1 x336 v3 w).bind fun r338 => (sget sc (v4 + (1 : Int32))).bind fun x349 => (zobj r338.2 v2 9).bind fun _ => (f_Model_at F v2 x349 r338.2).bind fun r350 => (zobj r350.2 v2 9).bind fun _ => (f_Model_thrown F v2 r350.2).bind fun r356 => if r356.1 = r338.1 then (if r338.1 = 0 then ((lget r356.2 v3 (0 : Int32)).bind fun x373 => if (lg_cmp x373 r350.1.toInt64) = 0 then (b_Law_law_383 F sc K23 v1 v2 v3 v4 r356.2) else (some ((0 : Int32), r356.2))) else (b_Law_law_383 F sc K23 v1 v2 v3 v4 r356.2)) else (some ((0 : Int32), r356.2))
set_option maxRecDepth 100000 in
set_option maxHeartbeats 4000000 in
theorem b_Law_law_330_ok (G : zG) (F : Nat) (K23 : Nat → Nat → Nat → Int32 → zW → Option (Int32 × zW)) (n1 n2 : Nat) (hn1 : n1 + 2 ≤ 601024) (hn2 : n2 + 12 ≤ 7293034) (hK23 : ∀ (v1 : Nat) (v2 : Nat) (v3 : Nat) (v4 : Int32) (w : zW) (r : (Int32 × zW)), K23 v1 v2 v3 v4 w = some r → zV G m_Law_law 23 [(0, .ref (gB G)), (1, .ref (z0 G + v1)), (2, .ref (z0 G + v2)), (3, .ref (z0 G + v3)), (4, .int v4)] [] w (n1 + 2) (n2 + 12) (oI r.1) r.2) (v1 : Nat) (v2 : Nat) (v3 : Nat) (v4 : Int32) (w : zW) (r : (Int32 × zW)) (h : b_Law_law_330 F (gS G) K23 v1 v2 v3 v4 w = some r) : zV G m_Law_law 330 [(0, .ref (gB G)), (1, .ref (z0 G + v1)), (2, .ref (z0 G + v2)), (3, .ref (z0 G + v3)), (4, .int v4)] [] w (n1 + 0) (n2 + 0) (oI r.1) r.2 := by
  unfold b_Law_law_330 at h
  refine V_aload_n (i := 1) d_Law_law_330 rfl 1 rfl ?_
  refine V_aload_n (i := 0) d_Law_law_331 rfl 0 rfl ?_
  refine V_iload (i := 4) d_Law_law_332 4 rfl ?_
  refine V_iconst (v := 1) d_Law_law_334 (by decide) ?_
  refine V_iadd d_Law_law_335 ?_
  obtain ⟨x336, e336, h⟩ := ob h
  refine V_sget d_Law_law_336 e336 ?_
  refine V_aload_n (i := 3) d_Law_law_337 rfl 3 rfl ?_
  obtain ⟨r338, e338, h⟩ := ob h
  refine V_call (v := some (.int r338.1)) (st := []) (inv_S (N := m_Law_at) (As := [.ref (z0 G + v1), .int x336, .ref (z0 G + v3)]) d_Law_law_338 k638 k639 k0 (Or.inr kc_Law_at) y_Law_at) ⟨Or.inr kc_Law_at, k0, by decide, by decide⟩ (Nat.le_of_ble_eq_true rfl) (by show n1 + 0 + 1 ≤ 601024; omega) (by show n2 + 0 + 6 ≤ 7293034; omega) (c_Law_at G F v1 x336 v3 w r338 e338) ?_
  refine V_n (k1 := n1 + 1) (k2 := n2 + 6) (Nat.le_refl _) (Nat.le_refl _) ?_
  refine V_istore (i := 5) d_Law_law_341 (by decide) rfl ?_
  refine V_aload_n (i := 2) d_Law_law_343 rfl 3 rfl ?_
  refine V_aload_n (i := 0) d_Law_law_344 rfl 1 rfl ?_
  refine V_iload (i := 4) d_Law_law_345 5 rfl ?_
  refine V_iconst (v := 1) d_Law_law_347 (by decide) ?_
  refine V_iadd d_Law_law_348 ?_
  obtain ⟨x349, e349, h⟩ := ob h
  refine V_sget d_Law_law_349 e349 ?_
  obtain ⟨_, eo350, h⟩ := ob h
  obtain ⟨r350, e350, h⟩ := ob h
  refine V_call (v := some (.int r350.1)) (st := []) (inv_V (N := m_Model_at) (As := [.int x349]) (ci := 9) d_Law_law_350 eo350 rfl k1008 k1009 k1010 kc_Model_at y_Model_at) ⟨Or.inl kc_Model_at, k10, by decide, by decide⟩ (Nat.le_of_ble_eq_true rfl) (by show n1 + 1 + 0 ≤ 601024; omega) (by show n2 + 6 + 0 ≤ 7293034; omega) (c_Model_at G F v2 x349 r338.2 r350 e350) ?_
  refine V_n (k1 := n1 + 1) (k2 := n2 + 6) (Nat.le_refl _) (Nat.le_refl _) ?_
  refine V_istore (i := 6) d_Law_law_353 (by decide) rfl ?_
  refine V_aload_n (i := 2) d_Law_law_355 rfl 4 rfl ?_
  obtain ⟨_, eo356, h⟩ := ob h
  obtain ⟨r356, e356, h⟩ := ob h
  refine V_call (v := some (.int r356.1)) (st := []) (inv_V (N := m_Model_thrown) (As := []) (ci := 9) d_Law_law_356 eo356 rfl k982 k983 k984 kc_Model_thrown y_Model_thrown) ⟨Or.inl kc_Model_thrown, k10, by decide, by decide⟩ (Nat.le_of_ble_eq_true rfl) (by show n1 + 1 + 0 ≤ 601024; omega) (by show n2 + 6 + 0 ≤ 7293034; omega) (c_Model_thrown G F v2 r350.2 r356 e356) ?_
  refine V_n (k1 := n1 + 1) (k2 := n2 + 6) (Nat.le_refl _) (Nat.le_refl _) ?_
  refine V_iload (i := 5) d_Law_law_359 1 rfl ?_
  refine V_icmp_eq (tgt := 366) d_Law_law_361 (by decide) (fun c361 => ?_) (fun c361 => ?_)
  · rw [if_pos c361] at h
    refine V_iload (i := 5) d_Law_law_366 1 rfl ?_
    refine V_if_ne (tgt := 383) d_Law_law_368 (by decide) (fun c368 => ?_) (fun c368 => ?_)
    · rw [if_neg c368] at h
      refine V_lv [2, 3, 4, 5, 6] rfl ?_
      exact b_Law_law_383_ok G F K23 n1 n2 hn1 hn2 hK23 v1 v2 v3 v4 r356.2 _ h
    · rw [if_pos c368] at h
      refine V_aload_n (i := 3) d_Law_law_371 rfl 5 rfl ?_
      refine V_iconst (v := 0) d_Law_law_372 (by decide) ?_
      obtain ⟨x373, e373, h⟩ := ob h
      refine V_lget d_Law_law_373 e373 ?_
      refine V_iload (i := 6) d_Law_law_374 0 rfl ?_
      refine V_i2l d_Law_law_376 ?_
      refine V_lcmp d_Law_law_377 ?_
      refine V_if_eq (tgt := 383) d_Law_law_378 (by decide) (fun c378 => ?_) (fun c378 => ?_)
      · rw [if_pos c378] at h
        refine V_lv [2, 3, 4, 5, 6] rfl ?_
        exact b_Law_law_383_ok G F K23 n1 n2 hn1 hn2 hK23 v1 v2 v3 v4 r356.2 _ h
      · rw [if_neg c378] at h
        refine V_iconst (v := 0) d_Law_law_381 (by decide) ?_
        obtain rfl := Option.some.inj h
        exact V_zret rfl (Or.inl rfl) (by show n1 + 1 + 0 ≤ 601024; omega) (by show n2 + 6 + 0 ≤ 7293034; omega) d_Law_law_382
  · rw [if_neg c361] at h
    refine V_iconst (v := 0) d_Law_law_364 (by decide) ?_
    obtain rfl := Option.some.inj h
    exact V_zret rfl (Or.inl rfl) (by show n1 + 1 + 0 ≤ 601024; omega) (by show n2 + 6 + 0 ≤ 7293034; omega) d_Law_law_365
def b_Law_law_317 (F : Nat) (sc : List Int32) (K23 : Nat → Nat → Nat → Int32 → zW → Option (Int32 × zW)) (v1 : Nat) (v2 : Nat) (v3 : Nat) (v4 : Int32) (w : zW) : Option (Int32 × zW) := (zobj w v1 8).bind fun _ => (f_Zip_held F v1 w).bind fun r318 => (zobj r318.2 v2 9).bind fun _ => (f_Model_held F v2 r318.2).bind fun r322 => if r318.1 = r322.1 then (b_Law_law_1123 F sc K23 v1 v2 v3 v4 r322.2) else (some ((0 : Int32), r322.2))
set_option maxRecDepth 100000 in
set_option maxHeartbeats 4000000 in
theorem b_Law_law_317_ok (G : zG) (F : Nat) (K23 : Nat → Nat → Nat → Int32 → zW → Option (Int32 × zW)) (n1 n2 : Nat) (hn1 : n1 + 2 ≤ 601024) (hn2 : n2 + 12 ≤ 7293034) (hK23 : ∀ (v1 : Nat) (v2 : Nat) (v3 : Nat) (v4 : Int32) (w : zW) (r : (Int32 × zW)), K23 v1 v2 v3 v4 w = some r → zV G m_Law_law 23 [(0, .ref (gB G)), (1, .ref (z0 G + v1)), (2, .ref (z0 G + v2)), (3, .ref (z0 G + v3)), (4, .int v4)] [] w (n1 + 2) (n2 + 12) (oI r.1) r.2) (v1 : Nat) (v2 : Nat) (v3 : Nat) (v4 : Int32) (w : zW) (r : (Int32 × zW)) (h : b_Law_law_317 F (gS G) K23 v1 v2 v3 v4 w = some r) : zV G m_Law_law 317 [(0, .ref (gB G)), (1, .ref (z0 G + v1)), (2, .ref (z0 G + v2)), (3, .ref (z0 G + v3)), (4, .int v4)] [] w (n1 + 0) (n2 + 0) (oI r.1) r.2 := by
  unfold b_Law_law_317 at h
  refine V_aload_n (i := 1) d_Law_law_317 rfl 1 rfl ?_
  obtain ⟨_, eo318, h⟩ := ob h
  obtain ⟨r318, e318, h⟩ := ob h
  refine V_call (v := some (.int r318.1)) (st := []) (inv_V (N := m_Zip_held) (As := []) (ci := 8) d_Law_law_318 eo318 rfl k291 k292 k293 kc_Zip_held y_Zip_held) ⟨Or.inl kc_Zip_held, k1, by decide, by decide⟩ (Nat.le_of_ble_eq_true rfl) (by show n1 + 0 + 0 ≤ 601024; omega) (by show n2 + 0 + 0 ≤ 7293034; omega) (c_Zip_held G F v1 w r318 e318) ?_
  refine V_n (k1 := n1 + 0) (k2 := n2 + 0) (Nat.le_refl _) (Nat.le_refl _) ?_
  refine V_aload_n (i := 2) d_Law_law_321 rfl 2 rfl ?_
  obtain ⟨_, eo322, h⟩ := ob h
  obtain ⟨r322, e322, h⟩ := ob h
  refine V_call (v := some (.int r322.1)) (st := [.int r318.1]) (inv_V (N := m_Model_held) (As := []) (ci := 9) d_Law_law_322 eo322 rfl k1004 k1005 k1006 kc_Model_held y_Model_held) ⟨Or.inl kc_Model_held, k10, by decide, by decide⟩ (Nat.le_of_ble_eq_true rfl) (by show n1 + 0 + 0 ≤ 601024; omega) (by show n2 + 0 + 0 ≤ 7293034; omega) (c_Model_held G F v2 r318.2 r322 e322) ?_
  refine V_n (k1 := n1 + 0) (k2 := n2 + 0) (Nat.le_refl _) (Nat.le_refl _) ?_
  refine V_icmp_eq (tgt := 1123) d_Law_law_325 (by decide) (fun c325 => ?_) (fun c325 => ?_)
  · rw [if_pos c325] at h
    refine V_n (k1 := n1 + 2) (k2 := n2 + 12) (by omega) (by omega) ?_
    exact b_Law_law_1123_ok G F K23 n1 n2 hn1 hn2 hK23 v1 v2 v3 v4 r322.2 _ h
  · rw [if_neg c325] at h
    refine V_iconst (v := 0) d_Law_law_328 (by decide) ?_
    obtain rfl := Option.some.inj h
    exact V_zret rfl (Or.inl rfl) (by show n1 + 0 + 0 ≤ 601024; omega) (by show n2 + 0 + 0 ≤ 7293034; omega) d_Law_law_329
def b_Law_law_314 (F : Nat) (sc : List Int32) (K23 : Nat → Nat → Nat → Int32 → zW → Option (Int32 × zW)) (v1 : Nat) (v2 : Nat) (v3 : Nat) (v4 : Int32) (w : zW) : Option (Int32 × zW) := b_Law_law_1123 F sc K23 v1 v2 v3 v4 w
set_option maxRecDepth 100000 in
set_option maxHeartbeats 4000000 in
theorem b_Law_law_314_ok (G : zG) (F : Nat) (K23 : Nat → Nat → Nat → Int32 → zW → Option (Int32 × zW)) (n1 n2 : Nat) (hn1 : n1 + 2 ≤ 601024) (hn2 : n2 + 12 ≤ 7293034) (hK23 : ∀ (v1 : Nat) (v2 : Nat) (v3 : Nat) (v4 : Int32) (w : zW) (r : (Int32 × zW)), K23 v1 v2 v3 v4 w = some r → zV G m_Law_law 23 [(0, .ref (gB G)), (1, .ref (z0 G + v1)), (2, .ref (z0 G + v2)), (3, .ref (z0 G + v3)), (4, .int v4)] [] w (n1 + 2) (n2 + 12) (oI r.1) r.2) (v1 : Nat) (v2 : Nat) (v3 : Nat) (v4 : Int32) (w : zW) (r : (Int32 × zW)) (h : b_Law_law_314 F (gS G) K23 v1 v2 v3 v4 w = some r) : zV G m_Law_law 314 [(0, .ref (gB G)), (1, .ref (z0 G + v1)), (2, .ref (z0 G + v2)), (3, .ref (z0 G + v3)), (4, .int v4)] [] w (n1 + 1) (n2 + 6) (oI r.1) r.2 := by
  unfold b_Law_law_314 at h
  refine V_goto (tgt := 1123) d_Law_law_314 (by decide) ?_
  refine V_n (k1 := n1 + 2) (k2 := n2 + 12) (by omega) (by omega) ?_
  exact b_Law_law_1123_ok G F K23 n1 n2 hn1 hn2 hK23 v1 v2 v3 v4 w _ h
def b_Law_law_249 (F : Nat) (sc : List Int32) (K23 : Nat → Nat → Nat → Int32 → zW → Option (Int32 × zW)) (v1 : Nat) (v2 : Nat) (v3 : Nat) (v4 : Int32) (w : zW) : Option (Int32 × zW) := (sget sc (v4 + (1 : Int32))).bind fun x255 => (sget sc (v4 + (2 : Int32))).bind fun x261 => (f_Law_fill F v1 x255 x261 v3 w).bind fun r263 => (sget sc (v4 + (1 : Int32))).bind fun x274 => (sget sc (v4 + (2 : Int32))).bind fun x280 => (zobj r263.2 v2 9).bind fun _ => (f_Model_fill F v2 x274 x280 r263.2).bind fun r281 => (zobj r281.2 v2 9).bind fun _ => (f_Model_thrown F v2 r281.2).bind fun r287 => if r287.1 = r263.1 then (if r263.1 = 0 then ((lget r287.2 v3 (0 : Int32)).bind fun x304 => if (lg_cmp x304 r281.1.toInt64) = 0 then (b_Law_law_314 F sc K23 v1 v2 v3 v4 r287.2) else (some ((0 : Int32), r287.2))) else (b_Law_law_314 F sc K23 v1 v2 v3 v4 r287.2)) else (some ((0 : Int32), r287.2))
set_option maxRecDepth 100000 in
set_option maxHeartbeats 4000000 in
theorem b_Law_law_249_ok (G : zG) (F : Nat) (K23 : Nat → Nat → Nat → Int32 → zW → Option (Int32 × zW)) (n1 n2 : Nat) (hn1 : n1 + 2 ≤ 601024) (hn2 : n2 + 12 ≤ 7293034) (hK23 : ∀ (v1 : Nat) (v2 : Nat) (v3 : Nat) (v4 : Int32) (w : zW) (r : (Int32 × zW)), K23 v1 v2 v3 v4 w = some r → zV G m_Law_law 23 [(0, .ref (gB G)), (1, .ref (z0 G + v1)), (2, .ref (z0 G + v2)), (3, .ref (z0 G + v3)), (4, .int v4)] [] w (n1 + 2) (n2 + 12) (oI r.1) r.2) (v1 : Nat) (v2 : Nat) (v3 : Nat) (v4 : Int32) (w : zW) (r : (Int32 × zW)) (h : b_Law_law_249 F (gS G) K23 v1 v2 v3 v4 w = some r) : zV G m_Law_law 249 [(0, .ref (gB G)), (1, .ref (z0 G + v1)), (2, .ref (z0 G + v2)), (3, .ref (z0 G + v3)), (4, .int v4)] [] w (n1 + 0) (n2 + 0) (oI r.1) r.2 := by
  unfold b_Law_law_249 at h
  refine V_aload_n (i := 1) d_Law_law_249 rfl 1 rfl ?_
  refine V_aload_n (i := 0) d_Law_law_250 rfl 0 rfl ?_
  refine V_iload (i := 4) d_Law_law_251 4 rfl ?_
  refine V_iconst (v := 1) d_Law_law_253 (by decide) ?_
  refine V_iadd d_Law_law_254 ?_
  obtain ⟨x255, e255, h⟩ := ob h
  refine V_sget d_Law_law_255 e255 ?_
  refine V_aload_n (i := 0) d_Law_law_256 rfl 0 rfl ?_
  refine V_iload (i := 4) d_Law_law_257 4 rfl ?_
  refine V_iconst (v := 2) d_Law_law_259 (by decide) ?_
  refine V_iadd d_Law_law_260 ?_
  obtain ⟨x261, e261, h⟩ := ob h
  refine V_sget d_Law_law_261 e261 ?_
  refine V_aload_n (i := 3) d_Law_law_262 rfl 3 rfl ?_
  obtain ⟨r263, e263, h⟩ := ob h
  refine V_call (v := some (.int r263.1)) (st := []) (inv_S (N := m_Law_fill) (As := [.ref (z0 G + v1), .int x255, .int x261, .ref (z0 G + v3)]) d_Law_law_263 k627 k628 k0 (Or.inr kc_Law_fill) y_Law_fill) ⟨Or.inr kc_Law_fill, k0, by decide, by decide⟩ (Nat.le_of_ble_eq_true rfl) (by show n1 + 0 + 1 ≤ 601024; omega) (by show n2 + 0 + 6 ≤ 7293034; omega) (c_Law_fill G F v1 x255 x261 v3 w r263 e263) ?_
  refine V_n (k1 := n1 + 1) (k2 := n2 + 6) (Nat.le_refl _) (Nat.le_refl _) ?_
  refine V_istore (i := 5) d_Law_law_266 (by decide) rfl ?_
  refine V_aload_n (i := 2) d_Law_law_268 rfl 3 rfl ?_
  refine V_aload_n (i := 0) d_Law_law_269 rfl 1 rfl ?_
  refine V_iload (i := 4) d_Law_law_270 5 rfl ?_
  refine V_iconst (v := 1) d_Law_law_272 (by decide) ?_
  refine V_iadd d_Law_law_273 ?_
  obtain ⟨x274, e274, h⟩ := ob h
  refine V_sget d_Law_law_274 e274 ?_
  refine V_aload_n (i := 0) d_Law_law_275 rfl 1 rfl ?_
  refine V_iload (i := 4) d_Law_law_276 5 rfl ?_
  refine V_iconst (v := 2) d_Law_law_278 (by decide) ?_
  refine V_iadd d_Law_law_279 ?_
  obtain ⟨x280, e280, h⟩ := ob h
  refine V_sget d_Law_law_280 e280 ?_
  obtain ⟨_, eo281, h⟩ := ob h
  obtain ⟨r281, e281, h⟩ := ob h
  refine V_call (v := some (.int r281.1)) (st := []) (inv_V (N := m_Model_fill) (As := [.int x274, .int x280]) (ci := 9) d_Law_law_281 eo281 rfl k998 k999 k1000 kc_Model_fill y_Model_fill) ⟨Or.inl kc_Model_fill, k10, by decide, by decide⟩ (Nat.le_of_ble_eq_true rfl) (by show n1 + 1 + 0 ≤ 601024; omega) (by show n2 + 6 + 0 ≤ 7293034; omega) (c_Model_fill G F v2 x274 x280 r263.2 r281 e281) ?_
  refine V_n (k1 := n1 + 1) (k2 := n2 + 6) (Nat.le_refl _) (Nat.le_refl _) ?_
  refine V_istore (i := 6) d_Law_law_284 (by decide) rfl ?_
  refine V_aload_n (i := 2) d_Law_law_286 rfl 4 rfl ?_
  obtain ⟨_, eo287, h⟩ := ob h
  obtain ⟨r287, e287, h⟩ := ob h
  refine V_call (v := some (.int r287.1)) (st := []) (inv_V (N := m_Model_thrown) (As := []) (ci := 9) d_Law_law_287 eo287 rfl k982 k983 k984 kc_Model_thrown y_Model_thrown) ⟨Or.inl kc_Model_thrown, k10, by decide, by decide⟩ (Nat.le_of_ble_eq_true rfl) (by show n1 + 1 + 0 ≤ 601024; omega) (by show n2 + 6 + 0 ≤ 7293034; omega) (c_Model_thrown G F v2 r281.2 r287 e287) ?_
  refine V_n (k1 := n1 + 1) (k2 := n2 + 6) (Nat.le_refl _) (Nat.le_refl _) ?_
  refine V_iload (i := 5) d_Law_law_290 1 rfl ?_
  refine V_icmp_eq (tgt := 297) d_Law_law_292 (by decide) (fun c292 => ?_) (fun c292 => ?_)
  · rw [if_pos c292] at h
    refine V_iload (i := 5) d_Law_law_297 1 rfl ?_
    refine V_if_ne (tgt := 314) d_Law_law_299 (by decide) (fun c299 => ?_) (fun c299 => ?_)
    · rw [if_neg c299] at h
      refine V_lv [2, 3, 4, 5, 6] rfl ?_
      exact b_Law_law_314_ok G F K23 n1 n2 hn1 hn2 hK23 v1 v2 v3 v4 r287.2 _ h
    · rw [if_pos c299] at h
      refine V_aload_n (i := 3) d_Law_law_302 rfl 5 rfl ?_
      refine V_iconst (v := 0) d_Law_law_303 (by decide) ?_
      obtain ⟨x304, e304, h⟩ := ob h
      refine V_lget d_Law_law_304 e304 ?_
      refine V_iload (i := 6) d_Law_law_305 0 rfl ?_
      refine V_i2l d_Law_law_307 ?_
      refine V_lcmp d_Law_law_308 ?_
      refine V_if_eq (tgt := 314) d_Law_law_309 (by decide) (fun c309 => ?_) (fun c309 => ?_)
      · rw [if_pos c309] at h
        refine V_lv [2, 3, 4, 5, 6] rfl ?_
        exact b_Law_law_314_ok G F K23 n1 n2 hn1 hn2 hK23 v1 v2 v3 v4 r287.2 _ h
      · rw [if_neg c309] at h
        refine V_iconst (v := 0) d_Law_law_312 (by decide) ?_
        obtain rfl := Option.some.inj h
        exact V_zret rfl (Or.inl rfl) (by show n1 + 1 + 0 ≤ 601024; omega) (by show n2 + 6 + 0 ≤ 7293034; omega) d_Law_law_313
  · rw [if_neg c292] at h
    refine V_iconst (v := 0) d_Law_law_295 (by decide) ?_
    obtain rfl := Option.some.inj h
    exact V_zret rfl (Or.inl rfl) (by show n1 + 1 + 0 ≤ 601024; omega) (by show n2 + 6 + 0 ≤ 7293034; omega) d_Law_law_296
def b_Law_law_246 (F : Nat) (sc : List Int32) (K23 : Nat → Nat → Nat → Int32 → zW → Option (Int32 × zW)) (v1 : Nat) (v2 : Nat) (v3 : Nat) (v4 : Int32) (w : zW) : Option (Int32 × zW) := b_Law_law_1123 F sc K23 v1 v2 v3 v4 w
set_option maxRecDepth 100000 in
set_option maxHeartbeats 4000000 in
theorem b_Law_law_246_ok (G : zG) (F : Nat) (K23 : Nat → Nat → Nat → Int32 → zW → Option (Int32 × zW)) (n1 n2 : Nat) (hn1 : n1 + 2 ≤ 601024) (hn2 : n2 + 12 ≤ 7293034) (hK23 : ∀ (v1 : Nat) (v2 : Nat) (v3 : Nat) (v4 : Int32) (w : zW) (r : (Int32 × zW)), K23 v1 v2 v3 v4 w = some r → zV G m_Law_law 23 [(0, .ref (gB G)), (1, .ref (z0 G + v1)), (2, .ref (z0 G + v2)), (3, .ref (z0 G + v3)), (4, .int v4)] [] w (n1 + 2) (n2 + 12) (oI r.1) r.2) (v1 : Nat) (v2 : Nat) (v3 : Nat) (v4 : Int32) (w : zW) (r : (Int32 × zW)) (h : b_Law_law_246 F (gS G) K23 v1 v2 v3 v4 w = some r) : zV G m_Law_law 246 [(0, .ref (gB G)), (1, .ref (z0 G + v1)), (2, .ref (z0 G + v2)), (3, .ref (z0 G + v3)), (4, .int v4)] [] w (n1 + 1) (n2 + 6) (oI r.1) r.2 := by
  unfold b_Law_law_246 at h
  refine V_goto (tgt := 1123) d_Law_law_246 (by decide) ?_
  refine V_n (k1 := n1 + 2) (k2 := n2 + 12) (by omega) (by omega) ?_
  exact b_Law_law_1123_ok G F K23 n1 n2 hn1 hn2 hK23 v1 v2 v3 v4 w _ h
def b_Law_law_149 (F : Nat) (sc : List Int32) (K23 : Nat → Nat → Nat → Int32 → zW → Option (Int32 × zW)) (v1 : Nat) (v2 : Nat) (v3 : Nat) (v4 : Int32) (w : zW) : Option (Int32 × zW) := (sget sc (v4 + (1 : Int32))).bind fun x155 => (sget sc (v4 + (2 : Int32))).bind fun x165 => (sget sc (v4 + (3 : Int32))).bind fun x177 => (f_Law_give F v1 ((x155.toInt64 <<< ((32 : Int32).toInt64 &&& 63)) ||| (x165.toInt64 &&& (4294967295 : Int64))) x177 v3 w).bind fun r179 => (sget sc (v4 + (1 : Int32))).bind fun x190 => (sget sc (v4 + (2 : Int32))).bind fun x200 => (sget sc (v4 + (3 : Int32))).bind fun x212 => (zobj r179.2 v2 9).bind fun _ => (f_Model_give F v2 ((x190.toInt64 <<< ((32 : Int32).toInt64 &&& 63)) ||| (x200.toInt64 &&& (4294967295 : Int64))) x212 r179.2).bind fun r213 => (zobj r213.2 v2 9).bind fun _ => (f_Model_thrown F v2 r213.2).bind fun r219 => if r219.1 = r179.1 then (if r179.1 = 0 then ((lget r219.2 v3 (0 : Int32)).bind fun x236 => if (lg_cmp x236 r213.1.toInt64) = 0 then (b_Law_law_246 F sc K23 v1 v2 v3 v4 r219.2) else (some ((0 : Int32), r219.2))) else (b_Law_law_246 F sc K23 v1 v2 v3 v4 r219.2)) else (some ((0 : Int32), r219.2))
set_option maxRecDepth 100000 in
set_option maxHeartbeats 4000000 in
theorem b_Law_law_149_ok (G : zG) (F : Nat) (K23 : Nat → Nat → Nat → Int32 → zW → Option (Int32 × zW)) (n1 n2 : Nat) (hn1 : n1 + 2 ≤ 601024) (hn2 : n2 + 12 ≤ 7293034) (hK23 : ∀ (v1 : Nat) (v2 : Nat) (v3 : Nat) (v4 : Int32) (w : zW) (r : (Int32 × zW)), K23 v1 v2 v3 v4 w = some r → zV G m_Law_law 23 [(0, .ref (gB G)), (1, .ref (z0 G + v1)), (2, .ref (z0 G + v2)), (3, .ref (z0 G + v3)), (4, .int v4)] [] w (n1 + 2) (n2 + 12) (oI r.1) r.2) (v1 : Nat) (v2 : Nat) (v3 : Nat) (v4 : Int32) (w : zW) (r : (Int32 × zW)) (h : b_Law_law_149 F (gS G) K23 v1 v2 v3 v4 w = some r) : zV G m_Law_law 149 [(0, .ref (gB G)), (1, .ref (z0 G + v1)), (2, .ref (z0 G + v2)), (3, .ref (z0 G + v3)), (4, .int v4)] [] w (n1 + 0) (n2 + 0) (oI r.1) r.2 := by
  unfold b_Law_law_149 at h
  refine V_aload_n (i := 1) d_Law_law_149 rfl 1 rfl ?_
  refine V_aload_n (i := 0) d_Law_law_150 rfl 0 rfl ?_
  refine V_iload (i := 4) d_Law_law_151 4 rfl ?_
  refine V_iconst (v := 1) d_Law_law_153 (by decide) ?_
  refine V_iadd d_Law_law_154 ?_
  obtain ⟨x155, e155, h⟩ := ob h
  refine V_sget d_Law_law_155 e155 ?_
  refine V_i2l d_Law_law_156 ?_
  refine V_bipush (v := 32) d_Law_law_157 (by decide) ?_
  refine V_lshl d_Law_law_159 ?_
  refine V_aload_n (i := 0) d_Law_law_160 rfl 0 rfl ?_
  refine V_iload (i := 4) d_Law_law_161 4 rfl ?_
  refine V_iconst (v := 2) d_Law_law_163 (by decide) ?_
  refine V_iadd d_Law_law_164 ?_
  obtain ⟨x165, e165, h⟩ := ob h
  refine V_sget d_Law_law_165 e165 ?_
  refine V_i2l d_Law_law_166 ?_
  refine V_ldc2 (v := 4294967295) d_Law_law_167 k1328 ?_
  refine V_land d_Law_law_170 ?_
  refine V_lor d_Law_law_171 ?_
  refine V_aload_n (i := 0) d_Law_law_172 rfl 0 rfl ?_
  refine V_iload (i := 4) d_Law_law_173 4 rfl ?_
  refine V_iconst (v := 3) d_Law_law_175 (by decide) ?_
  refine V_iadd d_Law_law_176 ?_
  obtain ⟨x177, e177, h⟩ := ob h
  refine V_sget d_Law_law_177 e177 ?_
  refine V_aload_n (i := 3) d_Law_law_178 rfl 3 rfl ?_
  obtain ⟨r179, e179, h⟩ := ob h
  refine V_call (v := some (.int r179.1)) (st := []) (inv_S (N := m_Law_give) (As := [.ref (z0 G + v1), .long ((x155.toInt64 <<< ((32 : Int32).toInt64 &&& 63)) ||| (x165.toInt64 &&& (4294967295 : Int64))), .int x177, .ref (z0 G + v3)]) d_Law_law_179 k529 k530 k0 (Or.inr kc_Law_give) y_Law_give) ⟨Or.inr kc_Law_give, k0, by decide, by decide⟩ (Nat.le_of_ble_eq_true rfl) (by show n1 + 0 + 1 ≤ 601024; omega) (by show n2 + 0 + 6 ≤ 7293034; omega) (c_Law_give G F v1 ((x155.toInt64 <<< ((32 : Int32).toInt64 &&& 63)) ||| (x165.toInt64 &&& (4294967295 : Int64))) x177 v3 w r179 e179) ?_
  refine V_n (k1 := n1 + 1) (k2 := n2 + 6) (Nat.le_refl _) (Nat.le_refl _) ?_
  refine V_istore (i := 5) d_Law_law_182 (by decide) rfl ?_
  refine V_aload_n (i := 2) d_Law_law_184 rfl 3 rfl ?_
  refine V_aload_n (i := 0) d_Law_law_185 rfl 1 rfl ?_
  refine V_iload (i := 4) d_Law_law_186 5 rfl ?_
  refine V_iconst (v := 1) d_Law_law_188 (by decide) ?_
  refine V_iadd d_Law_law_189 ?_
  obtain ⟨x190, e190, h⟩ := ob h
  refine V_sget d_Law_law_190 e190 ?_
  refine V_i2l d_Law_law_191 ?_
  refine V_bipush (v := 32) d_Law_law_192 (by decide) ?_
  refine V_lshl d_Law_law_194 ?_
  refine V_aload_n (i := 0) d_Law_law_195 rfl 1 rfl ?_
  refine V_iload (i := 4) d_Law_law_196 5 rfl ?_
  refine V_iconst (v := 2) d_Law_law_198 (by decide) ?_
  refine V_iadd d_Law_law_199 ?_
  obtain ⟨x200, e200, h⟩ := ob h
  refine V_sget d_Law_law_200 e200 ?_
  refine V_i2l d_Law_law_201 ?_
  refine V_ldc2 (v := 4294967295) d_Law_law_202 k1328 ?_
  refine V_land d_Law_law_205 ?_
  refine V_lor d_Law_law_206 ?_
  refine V_aload_n (i := 0) d_Law_law_207 rfl 1 rfl ?_
  refine V_iload (i := 4) d_Law_law_208 5 rfl ?_
  refine V_iconst (v := 3) d_Law_law_210 (by decide) ?_
  refine V_iadd d_Law_law_211 ?_
  obtain ⟨x212, e212, h⟩ := ob h
  refine V_sget d_Law_law_212 e212 ?_
  obtain ⟨_, eo213, h⟩ := ob h
  obtain ⟨r213, e213, h⟩ := ob h
  refine V_call (v := some (.int r213.1)) (st := []) (inv_V (N := m_Model_give) (As := [.long ((x190.toInt64 <<< ((32 : Int32).toInt64 &&& 63)) ||| (x200.toInt64 &&& (4294967295 : Int64))), .int x212]) (ci := 9) d_Law_law_213 eo213 rfl k990 k991 k992 kc_Model_give y_Model_give) ⟨Or.inl kc_Model_give, k10, by decide, by decide⟩ (Nat.le_of_ble_eq_true rfl) (by show n1 + 1 + 0 ≤ 601024; omega) (by show n2 + 6 + 0 ≤ 7293034; omega) (c_Model_give G F v2 ((x190.toInt64 <<< ((32 : Int32).toInt64 &&& 63)) ||| (x200.toInt64 &&& (4294967295 : Int64))) x212 r179.2 r213 e213) ?_
  refine V_n (k1 := n1 + 1) (k2 := n2 + 6) (Nat.le_refl _) (Nat.le_refl _) ?_
  refine V_istore (i := 6) d_Law_law_216 (by decide) rfl ?_
  refine V_aload_n (i := 2) d_Law_law_218 rfl 4 rfl ?_
  obtain ⟨_, eo219, h⟩ := ob h
  obtain ⟨r219, e219, h⟩ := ob h
  refine V_call (v := some (.int r219.1)) (st := []) (inv_V (N := m_Model_thrown) (As := []) (ci := 9) d_Law_law_219 eo219 rfl k982 k983 k984 kc_Model_thrown y_Model_thrown) ⟨Or.inl kc_Model_thrown, k10, by decide, by decide⟩ (Nat.le_of_ble_eq_true rfl) (by show n1 + 1 + 0 ≤ 601024; omega) (by show n2 + 6 + 0 ≤ 7293034; omega) (c_Model_thrown G F v2 r213.2 r219 e219) ?_
  refine V_n (k1 := n1 + 1) (k2 := n2 + 6) (Nat.le_refl _) (Nat.le_refl _) ?_
  refine V_iload (i := 5) d_Law_law_222 1 rfl ?_
  refine V_icmp_eq (tgt := 229) d_Law_law_224 (by decide) (fun c224 => ?_) (fun c224 => ?_)
  · rw [if_pos c224] at h
    refine V_iload (i := 5) d_Law_law_229 1 rfl ?_
    refine V_if_ne (tgt := 246) d_Law_law_231 (by decide) (fun c231 => ?_) (fun c231 => ?_)
    · rw [if_neg c231] at h
      refine V_lv [2, 3, 4, 5, 6] rfl ?_
      exact b_Law_law_246_ok G F K23 n1 n2 hn1 hn2 hK23 v1 v2 v3 v4 r219.2 _ h
    · rw [if_pos c231] at h
      refine V_aload_n (i := 3) d_Law_law_234 rfl 5 rfl ?_
      refine V_iconst (v := 0) d_Law_law_235 (by decide) ?_
      obtain ⟨x236, e236, h⟩ := ob h
      refine V_lget d_Law_law_236 e236 ?_
      refine V_iload (i := 6) d_Law_law_237 0 rfl ?_
      refine V_i2l d_Law_law_239 ?_
      refine V_lcmp d_Law_law_240 ?_
      refine V_if_eq (tgt := 246) d_Law_law_241 (by decide) (fun c241 => ?_) (fun c241 => ?_)
      · rw [if_pos c241] at h
        refine V_lv [2, 3, 4, 5, 6] rfl ?_
        exact b_Law_law_246_ok G F K23 n1 n2 hn1 hn2 hK23 v1 v2 v3 v4 r219.2 _ h
      · rw [if_neg c241] at h
        refine V_iconst (v := 0) d_Law_law_244 (by decide) ?_
        obtain rfl := Option.some.inj h
        exact V_zret rfl (Or.inl rfl) (by show n1 + 1 + 0 ≤ 601024; omega) (by show n2 + 6 + 0 ≤ 7293034; omega) d_Law_law_245
  · rw [if_neg c224] at h
    refine V_iconst (v := 0) d_Law_law_227 (by decide) ?_
    obtain rfl := Option.some.inj h
    exact V_zret rfl (Or.inl rfl) (by show n1 + 1 + 0 ≤ 601024; omega) (by show n2 + 6 + 0 ≤ 7293034; omega) d_Law_law_228
def b_Law_law_136 (F : Nat) (sc : List Int32) (K23 : Nat → Nat → Nat → Int32 → zW → Option (Int32 × zW)) (v1 : Nat) (v2 : Nat) (v3 : Nat) (v4 : Int32) (w : zW) : Option (Int32 × zW) := (zobj w v1 8).bind fun _ => (f_Zip_clear F v1 w).bind fun r137 => (zobj r137.2 v2 9).bind fun _ => (f_Model_clear F v2 r137.2).bind fun r141 => if r137.1 = r141.1 then (b_Law_law_1123 F sc K23 v1 v2 v3 v4 r141.2) else (some ((0 : Int32), r141.2))
set_option maxRecDepth 100000 in
set_option maxHeartbeats 4000000 in
theorem b_Law_law_136_ok (G : zG) (F : Nat) (K23 : Nat → Nat → Nat → Int32 → zW → Option (Int32 × zW)) (n1 n2 : Nat) (hn1 : n1 + 2 ≤ 601024) (hn2 : n2 + 12 ≤ 7293034) (hK23 : ∀ (v1 : Nat) (v2 : Nat) (v3 : Nat) (v4 : Int32) (w : zW) (r : (Int32 × zW)), K23 v1 v2 v3 v4 w = some r → zV G m_Law_law 23 [(0, .ref (gB G)), (1, .ref (z0 G + v1)), (2, .ref (z0 G + v2)), (3, .ref (z0 G + v3)), (4, .int v4)] [] w (n1 + 2) (n2 + 12) (oI r.1) r.2) (v1 : Nat) (v2 : Nat) (v3 : Nat) (v4 : Int32) (w : zW) (r : (Int32 × zW)) (h : b_Law_law_136 F (gS G) K23 v1 v2 v3 v4 w = some r) : zV G m_Law_law 136 [(0, .ref (gB G)), (1, .ref (z0 G + v1)), (2, .ref (z0 G + v2)), (3, .ref (z0 G + v3)), (4, .int v4)] [] w (n1 + 0) (n2 + 0) (oI r.1) r.2 := by
  unfold b_Law_law_136 at h
  refine V_aload_n (i := 1) d_Law_law_136 rfl 1 rfl ?_
  obtain ⟨_, eo137, h⟩ := ob h
  obtain ⟨r137, e137, h⟩ := ob h
  refine V_call (v := some (.int r137.1)) (st := []) (inv_V (N := m_Zip_clear) (As := []) (ci := 8) d_Law_law_137 eo137 rfl k283 k284 k285 kc_Zip_clear y_Zip_clear) ⟨Or.inl kc_Zip_clear, k1, by decide, by decide⟩ (Nat.le_of_ble_eq_true rfl) (by show n1 + 0 + 0 ≤ 601024; omega) (by show n2 + 0 + 0 ≤ 7293034; omega) (c_Zip_clear G F v1 w r137 e137) ?_
  refine V_n (k1 := n1 + 0) (k2 := n2 + 0) (Nat.le_refl _) (Nat.le_refl _) ?_
  refine V_aload_n (i := 2) d_Law_law_140 rfl 2 rfl ?_
  obtain ⟨_, eo141, h⟩ := ob h
  obtain ⟨r141, e141, h⟩ := ob h
  refine V_call (v := some (.int r141.1)) (st := [.int r137.1]) (inv_V (N := m_Model_clear) (As := []) (ci := 9) d_Law_law_141 eo141 rfl k986 k987 k988 kc_Model_clear y_Model_clear) ⟨Or.inl kc_Model_clear, k10, by decide, by decide⟩ (Nat.le_of_ble_eq_true rfl) (by show n1 + 0 + 0 ≤ 601024; omega) (by show n2 + 0 + 0 ≤ 7293034; omega) (c_Model_clear G F v2 r137.2 r141 e141) ?_
  refine V_n (k1 := n1 + 0) (k2 := n2 + 0) (Nat.le_refl _) (Nat.le_refl _) ?_
  refine V_icmp_eq (tgt := 1123) d_Law_law_144 (by decide) (fun c144 => ?_) (fun c144 => ?_)
  · rw [if_pos c144] at h
    refine V_n (k1 := n1 + 2) (k2 := n2 + 12) (by omega) (by omega) ?_
    exact b_Law_law_1123_ok G F K23 n1 n2 hn1 hn2 hK23 v1 v2 v3 v4 r141.2 _ h
  · rw [if_neg c144] at h
    refine V_iconst (v := 0) d_Law_law_147 (by decide) ?_
    obtain rfl := Option.some.inj h
    exact V_zret rfl (Or.inl rfl) (by show n1 + 0 + 0 ≤ 601024; omega) (by show n2 + 0 + 0 ≤ 7293034; omega) d_Law_law_148
def b_Law_law_23 (F : Nat) (sc : List Int32) (K23 : Nat → Nat → Nat → Int32 → zW → Option (Int32 × zW)) (v1 : Nat) (v2 : Nat) (v3 : Nat) (v4 : Int32) (w : zW) : Option (Int32 × zW) := if ((Int32.ofNat sc.length) - (4 : Int32)) < v4 then (some ((1 : Int32), w)) else ((sget sc v4).bind fun x35 => if (x35 &&& (31 : Int32)) = 0 then (b_Law_law_136 F sc K23 v1 v2 v3 v4 w) else if (x35 &&& (31 : Int32)) = 1 then (b_Law_law_149 F sc K23 v1 v2 v3 v4 w) else if (x35 &&& (31 : Int32)) = 2 then (b_Law_law_249 F sc K23 v1 v2 v3 v4 w) else if (x35 &&& (31 : Int32)) = 3 then (b_Law_law_317 F sc K23 v1 v2 v3 v4 w) else if (x35 &&& (31 : Int32)) = 4 then (b_Law_law_330 F sc K23 v1 v2 v3 v4 w) else if (x35 &&& (31 : Int32)) = 5 then (b_Law_law_386 F sc K23 v1 v2 v3 v4 w) else if (x35 &&& (31 : Int32)) = 6 then (b_Law_law_399 F sc K23 v1 v2 v3 v4 w) else if (x35 &&& (31 : Int32)) = 7 then (b_Law_law_443 F sc K23 v1 v2 v3 v4 w) else if (x35 &&& (31 : Int32)) = 8 then (b_Law_law_487 F sc K23 v1 v2 v3 v4 w) else if (x35 &&& (31 : Int32)) = 9 then (b_Law_law_498 F sc K23 v1 v2 v3 v4 w) else if (x35 &&& (31 : Int32)) = 10 then (b_Law_law_537 F sc K23 v1 v2 v3 v4 w) else if (x35 &&& (31 : Int32)) = 11 then (b_Law_law_633 F sc K23 v1 v2 v3 v4 w) else if (x35 &&& (31 : Int32)) = 12 then (b_Law_law_689 F sc K23 v1 v2 v3 v4 w) else if (x35 &&& (31 : Int32)) = 13 then (b_Law_law_745 F sc K23 v1 v2 v3 v4 w) else if (x35 &&& (31 : Int32)) = 14 then (b_Law_law_789 F sc K23 v1 v2 v3 v4 w) else if (x35 &&& (31 : Int32)) = 15 then (b_Law_law_857 F sc K23 v1 v2 v3 v4 w) else if (x35 &&& (31 : Int32)) = 16 then (b_Law_law_870 F sc K23 v1 v2 v3 v4 w) else if (x35 &&& (31 : Int32)) = 17 then (b_Law_law_883 F sc K23 v1 v2 v3 v4 w) else if (x35 &&& (31 : Int32)) = 18 then (b_Law_law_939 F sc K23 v1 v2 v3 v4 w) else if (x35 &&& (31 : Int32)) = 19 then (b_Law_law_987 F sc K23 v1 v2 v3 v4 w) else if (x35 &&& (31 : Int32)) = 20 then (b_Law_law_1087 F sc K23 v1 v2 v3 v4 w) else (b_Law_law_1123 F sc K23 v1 v2 v3 v4 w))
set_option maxRecDepth 100000 in
set_option maxHeartbeats 4000000 in
theorem b_Law_law_23_ok (G : zG) (F : Nat) (K23 : Nat → Nat → Nat → Int32 → zW → Option (Int32 × zW)) (n1 n2 : Nat) (hn1 : n1 + 2 ≤ 601024) (hn2 : n2 + 12 ≤ 7293034) (hK23 : ∀ (v1 : Nat) (v2 : Nat) (v3 : Nat) (v4 : Int32) (w : zW) (r : (Int32 × zW)), K23 v1 v2 v3 v4 w = some r → zV G m_Law_law 23 [(0, .ref (gB G)), (1, .ref (z0 G + v1)), (2, .ref (z0 G + v2)), (3, .ref (z0 G + v3)), (4, .int v4)] [] w (n1 + 2) (n2 + 12) (oI r.1) r.2) (v1 : Nat) (v2 : Nat) (v3 : Nat) (v4 : Int32) (w : zW) (r : (Int32 × zW)) (h : b_Law_law_23 F (gS G) K23 v1 v2 v3 v4 w = some r) : zV G m_Law_law 23 [(0, .ref (gB G)), (1, .ref (z0 G + v1)), (2, .ref (z0 G + v2)), (3, .ref (z0 G + v3)), (4, .int v4)] [] w (n1 + 0) (n2 + 0) (oI r.1) r.2 := by
  unfold b_Law_law_23 at h
  refine V_iload (i := 4) d_Law_law_23 4 rfl ?_
  refine V_aload_n (i := 0) d_Law_law_25 rfl 0 rfl ?_
  refine V_slen d_Law_law_26 ?_
  refine V_iconst (v := 4) d_Law_law_27 (by decide) ?_
  refine V_isub d_Law_law_28 ?_
  refine V_icmp_gt (tgt := 1129) d_Law_law_29 (by decide) (fun c29 => ?_) (fun c29 => ?_)
  · rw [if_pos c29] at h
    refine V_iconst (v := 1) d_Law_law_1129 (by decide) ?_
    obtain rfl := Option.some.inj h
    exact V_zret rfl (Or.inr rfl) (by show n1 + 0 + 0 ≤ 601024; omega) (by show n2 + 0 + 0 ≤ 7293034; omega) d_Law_law_1130
  · rw [if_neg c29] at h
    refine V_aload_n (i := 0) d_Law_law_32 rfl 0 rfl ?_
    refine V_iload (i := 4) d_Law_law_33 4 rfl ?_
    obtain ⟨x35, e35, h⟩ := ob h
    refine V_sget d_Law_law_35 e35 ?_
    refine V_bipush (v := 31) d_Law_law_36 (by decide) ?_
    refine V_iand d_Law_law_38 ?_
    by_cases c39_0 : (x35 &&& (31 : Int32)) = 0
    · rw [if_pos c39_0] at h
      refine V_tabIn (off := 97) (tgt := 136) d_Law_law_39 (by rw [c39_0]; decide) (by rw [c39_0]; decide) (by rw [c39_0]; rfl) (by decide) ?_
      exact b_Law_law_136_ok G F K23 n1 n2 hn1 hn2 hK23 v1 v2 v3 v4 w _ h
    rw [if_neg c39_0] at h
    by_cases c39_1 : (x35 &&& (31 : Int32)) = 1
    · rw [if_pos c39_1] at h
      refine V_tabIn (off := 110) (tgt := 149) d_Law_law_39 (by rw [c39_1]; decide) (by rw [c39_1]; decide) (by rw [c39_1]; rfl) (by decide) ?_
      exact b_Law_law_149_ok G F K23 n1 n2 hn1 hn2 hK23 v1 v2 v3 v4 w _ h
    rw [if_neg c39_1] at h
    by_cases c39_2 : (x35 &&& (31 : Int32)) = 2
    · rw [if_pos c39_2] at h
      refine V_tabIn (off := 210) (tgt := 249) d_Law_law_39 (by rw [c39_2]; decide) (by rw [c39_2]; decide) (by rw [c39_2]; rfl) (by decide) ?_
      exact b_Law_law_249_ok G F K23 n1 n2 hn1 hn2 hK23 v1 v2 v3 v4 w _ h
    rw [if_neg c39_2] at h
    by_cases c39_3 : (x35 &&& (31 : Int32)) = 3
    · rw [if_pos c39_3] at h
      refine V_tabIn (off := 278) (tgt := 317) d_Law_law_39 (by rw [c39_3]; decide) (by rw [c39_3]; decide) (by rw [c39_3]; rfl) (by decide) ?_
      exact b_Law_law_317_ok G F K23 n1 n2 hn1 hn2 hK23 v1 v2 v3 v4 w _ h
    rw [if_neg c39_3] at h
    by_cases c39_4 : (x35 &&& (31 : Int32)) = 4
    · rw [if_pos c39_4] at h
      refine V_tabIn (off := 291) (tgt := 330) d_Law_law_39 (by rw [c39_4]; decide) (by rw [c39_4]; decide) (by rw [c39_4]; rfl) (by decide) ?_
      exact b_Law_law_330_ok G F K23 n1 n2 hn1 hn2 hK23 v1 v2 v3 v4 w _ h
    rw [if_neg c39_4] at h
    by_cases c39_5 : (x35 &&& (31 : Int32)) = 5
    · rw [if_pos c39_5] at h
      refine V_tabIn (off := 347) (tgt := 386) d_Law_law_39 (by rw [c39_5]; decide) (by rw [c39_5]; decide) (by rw [c39_5]; rfl) (by decide) ?_
      exact b_Law_law_386_ok G F K23 n1 n2 hn1 hn2 hK23 v1 v2 v3 v4 w _ h
    rw [if_neg c39_5] at h
    by_cases c39_6 : (x35 &&& (31 : Int32)) = 6
    · rw [if_pos c39_6] at h
      refine V_tabIn (off := 360) (tgt := 399) d_Law_law_39 (by rw [c39_6]; decide) (by rw [c39_6]; decide) (by rw [c39_6]; rfl) (by decide) ?_
      exact b_Law_law_399_ok G F K23 n1 n2 hn1 hn2 hK23 v1 v2 v3 v4 w _ h
    rw [if_neg c39_6] at h
    by_cases c39_7 : (x35 &&& (31 : Int32)) = 7
    · rw [if_pos c39_7] at h
      refine V_tabIn (off := 404) (tgt := 443) d_Law_law_39 (by rw [c39_7]; decide) (by rw [c39_7]; decide) (by rw [c39_7]; rfl) (by decide) ?_
      exact b_Law_law_443_ok G F K23 n1 n2 hn1 hn2 hK23 v1 v2 v3 v4 w _ h
    rw [if_neg c39_7] at h
    by_cases c39_8 : (x35 &&& (31 : Int32)) = 8
    · rw [if_pos c39_8] at h
      refine V_tabIn (off := 448) (tgt := 487) d_Law_law_39 (by rw [c39_8]; decide) (by rw [c39_8]; decide) (by rw [c39_8]; rfl) (by decide) ?_
      exact b_Law_law_487_ok G F K23 n1 n2 hn1 hn2 hK23 v1 v2 v3 v4 w _ h
    rw [if_neg c39_8] at h
    by_cases c39_9 : (x35 &&& (31 : Int32)) = 9
    · rw [if_pos c39_9] at h
      refine V_tabIn (off := 459) (tgt := 498) d_Law_law_39 (by rw [c39_9]; decide) (by rw [c39_9]; decide) (by rw [c39_9]; rfl) (by decide) ?_
      exact b_Law_law_498_ok G F K23 n1 n2 hn1 hn2 hK23 v1 v2 v3 v4 w _ h
    rw [if_neg c39_9] at h
    by_cases c39_10 : (x35 &&& (31 : Int32)) = 10
    · rw [if_pos c39_10] at h
      refine V_tabIn (off := 498) (tgt := 537) d_Law_law_39 (by rw [c39_10]; decide) (by rw [c39_10]; decide) (by rw [c39_10]; rfl) (by decide) ?_
      exact b_Law_law_537_ok G F K23 n1 n2 hn1 hn2 hK23 v1 v2 v3 v4 w _ h
    rw [if_neg c39_10] at h
    by_cases c39_11 : (x35 &&& (31 : Int32)) = 11
    · rw [if_pos c39_11] at h
      refine V_tabIn (off := 594) (tgt := 633) d_Law_law_39 (by rw [c39_11]; decide) (by rw [c39_11]; decide) (by rw [c39_11]; rfl) (by decide) ?_
      exact b_Law_law_633_ok G F K23 n1 n2 hn1 hn2 hK23 v1 v2 v3 v4 w _ h
    rw [if_neg c39_11] at h
    by_cases c39_12 : (x35 &&& (31 : Int32)) = 12
    · rw [if_pos c39_12] at h
      refine V_tabIn (off := 650) (tgt := 689) d_Law_law_39 (by rw [c39_12]; decide) (by rw [c39_12]; decide) (by rw [c39_12]; rfl) (by decide) ?_
      exact b_Law_law_689_ok G F K23 n1 n2 hn1 hn2 hK23 v1 v2 v3 v4 w _ h
    rw [if_neg c39_12] at h
    by_cases c39_13 : (x35 &&& (31 : Int32)) = 13
    · rw [if_pos c39_13] at h
      refine V_tabIn (off := 706) (tgt := 745) d_Law_law_39 (by rw [c39_13]; decide) (by rw [c39_13]; decide) (by rw [c39_13]; rfl) (by decide) ?_
      exact b_Law_law_745_ok G F K23 n1 n2 hn1 hn2 hK23 v1 v2 v3 v4 w _ h
    rw [if_neg c39_13] at h
    by_cases c39_14 : (x35 &&& (31 : Int32)) = 14
    · rw [if_pos c39_14] at h
      refine V_tabIn (off := 750) (tgt := 789) d_Law_law_39 (by rw [c39_14]; decide) (by rw [c39_14]; decide) (by rw [c39_14]; rfl) (by decide) ?_
      exact b_Law_law_789_ok G F K23 n1 n2 hn1 hn2 hK23 v1 v2 v3 v4 w _ h
    rw [if_neg c39_14] at h
    by_cases c39_15 : (x35 &&& (31 : Int32)) = 15
    · rw [if_pos c39_15] at h
      refine V_tabIn (off := 818) (tgt := 857) d_Law_law_39 (by rw [c39_15]; decide) (by rw [c39_15]; decide) (by rw [c39_15]; rfl) (by decide) ?_
      exact b_Law_law_857_ok G F K23 n1 n2 hn1 hn2 hK23 v1 v2 v3 v4 w _ h
    rw [if_neg c39_15] at h
    by_cases c39_16 : (x35 &&& (31 : Int32)) = 16
    · rw [if_pos c39_16] at h
      refine V_tabIn (off := 831) (tgt := 870) d_Law_law_39 (by rw [c39_16]; decide) (by rw [c39_16]; decide) (by rw [c39_16]; rfl) (by decide) ?_
      exact b_Law_law_870_ok G F K23 n1 n2 hn1 hn2 hK23 v1 v2 v3 v4 w _ h
    rw [if_neg c39_16] at h
    by_cases c39_17 : (x35 &&& (31 : Int32)) = 17
    · rw [if_pos c39_17] at h
      refine V_tabIn (off := 844) (tgt := 883) d_Law_law_39 (by rw [c39_17]; decide) (by rw [c39_17]; decide) (by rw [c39_17]; rfl) (by decide) ?_
      exact b_Law_law_883_ok G F K23 n1 n2 hn1 hn2 hK23 v1 v2 v3 v4 w _ h
    rw [if_neg c39_17] at h
    by_cases c39_18 : (x35 &&& (31 : Int32)) = 18
    · rw [if_pos c39_18] at h
      refine V_tabIn (off := 900) (tgt := 939) d_Law_law_39 (by rw [c39_18]; decide) (by rw [c39_18]; decide) (by rw [c39_18]; rfl) (by decide) ?_
      exact b_Law_law_939_ok G F K23 n1 n2 hn1 hn2 hK23 v1 v2 v3 v4 w _ h
    rw [if_neg c39_18] at h
    by_cases c39_19 : (x35 &&& (31 : Int32)) = 19
    · rw [if_pos c39_19] at h
      refine V_tabIn (off := 948) (tgt := 987) d_Law_law_39 (by rw [c39_19]; decide) (by rw [c39_19]; decide) (by rw [c39_19]; rfl) (by decide) ?_
      exact b_Law_law_987_ok G F K23 n1 n2 hn1 hn2 hK23 v1 v2 v3 v4 w _ h
    rw [if_neg c39_19] at h
    by_cases c39_20 : (x35 &&& (31 : Int32)) = 20
    · rw [if_pos c39_20] at h
      refine V_tabIn (off := 1048) (tgt := 1087) d_Law_law_39 (by rw [c39_20]; decide) (by rw [c39_20]; decide) (by rw [c39_20]; rfl) (by decide) ?_
      exact b_Law_law_1087_ok G F K23 n1 n2 hn1 hn2 hK23 v1 v2 v3 v4 w _ h
    rw [if_neg c39_20] at h
    have ct39 : (x35 &&& (31 : Int32)).toInt < 0 ∨ 20 < (x35 &&& (31 : Int32)).toInt := by
      have := lv_neT c39_0 (a := 0) (by decide)
      have := lv_neT c39_1 (a := 1) (by decide)
      have := lv_neT c39_2 (a := 2) (by decide)
      have := lv_neT c39_3 (a := 3) (by decide)
      have := lv_neT c39_4 (a := 4) (by decide)
      have := lv_neT c39_5 (a := 5) (by decide)
      have := lv_neT c39_6 (a := 6) (by decide)
      have := lv_neT c39_7 (a := 7) (by decide)
      have := lv_neT c39_8 (a := 8) (by decide)
      have := lv_neT c39_9 (a := 9) (by decide)
      have := lv_neT c39_10 (a := 10) (by decide)
      have := lv_neT c39_11 (a := 11) (by decide)
      have := lv_neT c39_12 (a := 12) (by decide)
      have := lv_neT c39_13 (a := 13) (by decide)
      have := lv_neT c39_14 (a := 14) (by decide)
      have := lv_neT c39_15 (a := 15) (by decide)
      have := lv_neT c39_16 (a := 16) (by decide)
      have := lv_neT c39_17 (a := 17) (by decide)
      have := lv_neT c39_18 (a := 18) (by decide)
      have := lv_neT c39_19 (a := 19) (by decide)
      have := lv_neT c39_20 (a := 20) (by decide)
      omega
    refine V_tabOut (tgt := 1123) d_Law_law_39 ct39 (by decide) ?_
    refine V_n (k1 := n1 + 2) (k2 := n2 + 12) (by omega) (by omega) ?_
    exact b_Law_law_1123_ok G F K23 n1 n2 hn1 hn2 hK23 v1 v2 v3 v4 w _ h
def l_Law_law_23 (F : Nat) (sc : List Int32) : Nat → Nat → Nat → Nat → Int32 → zW → Option (Int32 × zW)
  | 0 => fun _ _ _ _ _ => none
  | n + 1 => b_Law_law_23 F sc (l_Law_law_23 F sc n)
theorem l_Law_law_23_ok (G : zG) (F : Nat) (n : Nat) : ∀ (n1 n2 : Nat), n1 + 2 * n ≤ 601024 → n2 + 12 * n ≤ 7293034 → ∀ (v1 : Nat) (v2 : Nat) (v3 : Nat) (v4 : Int32) (w : zW) (r : (Int32 × zW)), l_Law_law_23 F (gS G) n v1 v2 v3 v4 w = some r → zV G m_Law_law 23 [(0, .ref (gB G)), (1, .ref (z0 G + v1)), (2, .ref (z0 G + v2)), (3, .ref (z0 G + v3)), (4, .int v4)] [] w (n1 + 0) (n2 + 0) (oI r.1) r.2 := by
  induction n with
  | zero => intro n1 n2 _ _ v1 v2 v3 v4 w r h; exact nomatch (show (none : Option (Int32 × zW)) = some r from h)
  | succ n ih => intro n1 n2 h1 h2 v1 v2 v3 v4 w r h; exact b_Law_law_23_ok G F (l_Law_law_23 F (gS G) n) n1 n2 (by omega) (by omega) (ih (n1 + 2) (n2 + 12) (by omega) (by omega)) v1 v2 v3 v4 w r h
def b_Law_law_0 (F : Nat) (sc : List Int32) (w : zW) : Option (Int32 × zW) := (znew w (.inr (.inr (.inr (8, fs_Zip))))).bind fun w0 => (f_Zip_init F w.length w0).bind fun r4 => (znew r4.2 (.inr (.inr (.inr (9, fs_Model))))).bind fun w8 => (f_Model_init F r4.2.length w8).bind fun r12 => (znew r12.2 (.inr (.inl (List.replicate 1 0)))).bind fun w17 => l_Law_law_23 F sc 513 w.length r4.2.length r12.2.length (0 : Int32) w17
set_option maxRecDepth 100000 in
set_option maxHeartbeats 4000000 in
theorem b_Law_law_0_ok (G : zG) (F : Nat) (w : zW) (r : (Int32 × zW)) (h : b_Law_law_0 F (gS G) w = some r) : zV G m_Law_law 0 [(0, .ref (gB G))] [] w 0 0 (oI r.1) r.2 := by
  unfold b_Law_law_0 at h
  obtain ⟨w0, ew0, h⟩ := ob h
  refine U_new (ci := 8) (fs := fs_Zip) t_Zip d_Law_law_0 ew0 rfl in_Zip k22 k23 k1 ty_Zip df_Zip (by decide) (by decide) ?_
  refine V_dup rfl d_Law_law_3 ?_
  obtain ⟨r4, e4, h⟩ := ob h
  refine V_call (v := none) (st := [.ref (z0 G + w.length)]) (inv_I (N := m_Zip_init) (As := []) d_Law_law_4 rfl rfl (Or.inl k24) k25 kc_Zip_init y_Zip_init) ⟨Or.inl kc_Zip_init, k1, by decide, by decide⟩ (Nat.le_of_ble_eq_true rfl) (by decide) (by decide) (c_Zip_init G F w.length w0 r4 e4) ?_
  refine V_astore_n (i := 1) d_Law_law_7 rfl (by decide) rfl ?_
  obtain ⟨w8, ew8, h⟩ := ob h
  refine U_new (ci := 9) (fs := fs_Model) t_Model d_Law_law_8 ew8 rfl in_Model k876 k877 k10 ty_Model df_Model (by decide) (by decide) ?_
  refine V_dup rfl d_Law_law_11 ?_
  obtain ⟨r12, e12, h⟩ := ob h
  refine V_call (v := none) (st := [.ref (z0 G + r4.2.length)]) (inv_I (N := m_Model_init) (As := []) d_Law_law_12 rfl rfl (Or.inl k878) k879 kc_Model_init y_Model_init) ⟨Or.inl kc_Model_init, k10, by decide, by decide⟩ (Nat.le_of_ble_eq_true rfl) (by decide) (by decide) (c_Model_init G F r4.2.length w8 r12 e12) ?_
  refine V_astore_n (i := 2) d_Law_law_15 rfl (by decide) rfl ?_
  refine V_iconst (v := 1) d_Law_law_16 (by decide) ?_
  obtain ⟨w17, e17, h⟩ := ob h
  refine U_newJ (N := 1) d_Law_law_17 e17 k1329 (by decide) (by decide) (by decide) (by decide) (by decide) ?_
  refine V_astore_n (i := 3) d_Law_law_19 rfl (by decide) rfl ?_
  refine V_iconst (v := 0) d_Law_law_20 (by decide) ?_
  refine V_istore (i := 4) d_Law_law_21 (by decide) rfl ?_
  refine V_lv [4, 3, 2, 1, 0] rfl ?_
  exact l_Law_law_23_ok G F 513 61 16068 (by decide) (by decide) w.length r4.2.length r12.2.length (0 : Int32) w17 _ h
def f_Law_law (F : Nat) (sc : List Int32) (w : zW) : Option (Int32 × zW) := b_Law_law_0 F sc w
theorem c_Law_law (G : zG) (F : Nat) (w : zW) (r : (Int32 × zW)) (h : f_Law_law F (gS G) w = some r) : zV G m_Law_law 0 [(0, .ref (gB G))] [] w 0 0 (oI r.1) r.2 := b_Law_law_0_ok G F w r h