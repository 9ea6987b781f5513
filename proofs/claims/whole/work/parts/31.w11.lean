/-! ZipArrayModel.areRecords(II)Z -/
def m_Model_areRecords : zM := (⟨R_Model, "areRecords", "(II)Z"⟩, prog_11_method_45_code, 4, (some .boolean), [], { frames := 1, cells := 0, slots := 0, locals := 21 })
theorem kc_Model_areRecords : Cond.code (mY m_Model_areRecords) (mC m_Model_areRecords) (mL m_Model_areRecords) (mT m_Model_areRecords) ∈ zTb := tb_at 1171 (by decide +kernel) rfl
theorem y_Model_areRecords : (mY m_Model_areRecords).cls ≠ "java/lang/invoke/MethodHandle" ∧ (mY m_Model_areRecords).cls ≠ "java/lang/invoke/VarHandle" ∧ (parseMethodDescriptor (mY m_Model_areRecords).desc).map (fun d => d.parameters.length) = some 2 := by decide +kernel
theorem sel_Model_areRecords : Cond.selects R_Model (mY m_Model_areRecords) (mY m_Model_areRecords) ∈ zTb := sel_at (y := mY m_Model_areRecords) (n := 33) 67 (by decide +kernel)
theorem d_Model_areRecords_0 : decode (mC m_Model_areRecords) 0 = .ok (.iload_n 1, 1) := by decide +kernel
theorem d_Model_areRecords_1 : decode (mC m_Model_areRecords) 1 = .ok (.istore_n 3, 1) := by decide +kernel
theorem d_Model_areRecords_2 : decode (mC m_Model_areRecords) 2 = .ok (.iload_n 3, 1) := by decide +kernel
theorem d_Model_areRecords_3 : decode (mC m_Model_areRecords) 3 = .ok (.iconst 4, 1) := by decide +kernel
theorem d_Model_areRecords_4 : decode (mC m_Model_areRecords) 4 = .ok (.iadd, 1) := by decide +kernel
theorem d_Model_areRecords_5 : decode (mC m_Model_areRecords) 5 = .ok (.iload_n 2, 1) := by decide +kernel
theorem d_Model_areRecords_6 : decode (mC m_Model_areRecords) 6 = .ok (.if_icmp .gt 18, 3) := by decide +kernel
theorem d_Model_areRecords_9 : decode (mC m_Model_areRecords) 9 = .ok (.iload_n 3, 1) := by decide +kernel
theorem d_Model_areRecords_10 : decode (mC m_Model_areRecords) 10 = .ok (.iconst 4, 1) := by decide +kernel
theorem d_Model_areRecords_11 : decode (mC m_Model_areRecords) 11 = .ok (.iadd, 1) := by decide +kernel
theorem d_Model_areRecords_12 : decode (mC m_Model_areRecords) 12 = .ok (.aload_n 0, 1) := by decide +kernel
theorem d_Model_areRecords_13 : decode (mC m_Model_areRecords) 13 = .ok (.iload_n 3, 1) := by decide +kernel
theorem d_Model_areRecords_14 : decode (mC m_Model_areRecords) 14 = .ok (.iconst 2, 1) := by decide +kernel
theorem d_Model_areRecords_15 : decode (mC m_Model_areRecords) 15 = .ok (.iadd, 1) := by decide +kernel
theorem d_Model_areRecords_16 : decode (mC m_Model_areRecords) 16 = .ok (.invokevirtual 199, 3) := by decide +kernel
theorem d_Model_areRecords_19 : decode (mC m_Model_areRecords) 19 = .ok (.iadd, 1) := by decide +kernel
theorem d_Model_areRecords_20 : decode (mC m_Model_areRecords) 20 = .ok (.istore_n 3, 1) := by decide +kernel
theorem d_Model_areRecords_21 : decode (mC m_Model_areRecords) 21 = .ok (.goto (-19), 3) := by decide +kernel
theorem d_Model_areRecords_24 : decode (mC m_Model_areRecords) 24 = .ok (.iload_n 3, 1) := by decide +kernel
theorem d_Model_areRecords_25 : decode (mC m_Model_areRecords) 25 = .ok (.iload_n 2, 1) := by decide +kernel
theorem d_Model_areRecords_26 : decode (mC m_Model_areRecords) 26 = .ok (.if_icmp .ne 7, 3) := by decide +kernel
theorem d_Model_areRecords_29 : decode (mC m_Model_areRecords) 29 = .ok (.iconst 1, 1) := by decide +kernel
theorem d_Model_areRecords_30 : decode (mC m_Model_areRecords) 30 = .ok (.goto 4, 3) := by decide +kernel
theorem d_Model_areRecords_33 : decode (mC m_Model_areRecords) 33 = .ok (.iconst 0, 1) := by decide +kernel
theorem d_Model_areRecords_34 : decode (mC m_Model_areRecords) 34 = .ok (.ireturn, 1) := by decide +kernel
def b_Model_areRecords_2 (F : Nat) (K2 : Nat → Int32 → Int32 → zW → Option (Int32 × zW)) (v0 : Nat) (v2 : Int32) (v3 : Int32) (w : zW) : Option (Int32 × zW) := if v2 < (v3 + (4 : Int32)) then (if v3 = v2 then (some ((1 : Int32), w)) else (some ((0 : Int32), w))) else ((zobj w v0 9).bind fun _ => (f_Model_two F v0 (v3 + (2 : Int32)) w).bind fun r16 => K2 v0 v2 ((v3 + (4 : Int32)) + r16.1) r16.2)
set_option maxRecDepth 100000 in
set_option maxHeartbeats 4000000 in
theorem b_Model_areRecords_2_ok (G : zG) (F : Nat) (K2 : Nat → Int32 → Int32 → zW → Option (Int32 × zW)) (hK2 : ∀ (v0 : Nat) (v2 : Int32) (v3 : Int32) (w : zW) (r : (Int32 × zW)), K2 v0 v2 v3 w = some r → zV G m_Model_areRecords 2 [(0, .ref (z0 G + v0)), (2, .int v2), (3, .int v3)] [] w 0 0 (oI r.1) r.2) (v0 : Nat) (v2 : Int32) (v3 : Int32) (w : zW) (r : (Int32 × zW)) (h : b_Model_areRecords_2 F K2 v0 v2 v3 w = some r) : zV G m_Model_areRecords 2 [(0, .ref (z0 G + v0)), (2, .int v2), (3, .int v3)] [] w 0 0 (oI r.1) r.2 := by
  unfold b_Model_areRecords_2 at h
  refine V_iload_n (i := 3) d_Model_areRecords_2 rfl 2 rfl ?_
  refine V_iconst (v := 4) d_Model_areRecords_3 (by decide) ?_
  refine V_iadd d_Model_areRecords_4 ?_
  refine V_iload_n (i := 2) d_Model_areRecords_5 rfl 1 rfl ?_
  refine V_icmp_gt (tgt := 24) d_Model_areRecords_6 (by decide) (fun c6 => ?_) (fun c6 => ?_)
  · rw [if_pos c6] at h
    refine V_iload_n (i := 3) d_Model_areRecords_24 rfl 2 rfl ?_
    refine V_iload_n (i := 2) d_Model_areRecords_25 rfl 1 rfl ?_
    refine V_icmp_ne (tgt := 33) d_Model_areRecords_26 (by decide) (fun c26 => ?_) (fun c26 => ?_)
    · rw [if_neg c26] at h
      refine V_iconst (v := 0) d_Model_areRecords_33 (by decide) ?_
      obtain rfl := Option.some.inj h
      exact V_zret rfl (Or.inl rfl) (by decide) (by decide) d_Model_areRecords_34
    · rw [if_pos c26] at h
      refine V_iconst (v := 1) d_Model_areRecords_29 (by decide) ?_
      refine V_goto (tgt := 34) d_Model_areRecords_30 (by decide) ?_
      obtain rfl := Option.some.inj h
      exact V_zret rfl (Or.inr rfl) (by decide) (by decide) d_Model_areRecords_34
  · rw [if_neg c6] at h
    refine V_iload_n (i := 3) d_Model_areRecords_9 rfl 2 rfl ?_
    refine V_iconst (v := 4) d_Model_areRecords_10 (by decide) ?_
    refine V_iadd d_Model_areRecords_11 ?_
    refine V_aload_n (i := 0) d_Model_areRecords_12 rfl 0 rfl ?_
    refine V_iload_n (i := 3) d_Model_areRecords_13 rfl 2 rfl ?_
    refine V_iconst (v := 2) d_Model_areRecords_14 (by decide) ?_
    refine V_iadd d_Model_areRecords_15 ?_
    obtain ⟨_, eo16, h⟩ := ob h
    obtain ⟨r16, e16, h⟩ := ob h
    refine V_call (v := some (.int r16.1)) (st := [.int (v3 + (4 : Int32))]) (inv_V (N := m_Model_two) (As := [.int (v3 + (2 : Int32))]) (ci := 9) d_Model_areRecords_16 eo16 rfl k1143 k1145 sel_Model_two kc_Model_two y_Model_two) ⟨Or.inl kc_Model_two, k10, by decide, by decide⟩ (Nat.le_of_ble_eq_true rfl) (by decide) (by decide) (c_Model_two G F v0 (v3 + (2 : Int32)) w r16 e16) ?_
    refine V_iadd d_Model_areRecords_19 ?_
    refine V_istore_n (i := 3) d_Model_areRecords_20 rfl (by decide) rfl ?_
    refine V_goto (tgt := 2) d_Model_areRecords_21 (by decide) ?_
    refine V_lv [1, 2, 0] rfl ?_
    exact hK2 v0 v2 ((v3 + (4 : Int32)) + r16.1) r16.2 _ h
def l_Model_areRecords_2 (F : Nat) : Nat → Nat → Int32 → Int32 → zW → Option (Int32 × zW)
  | 0 => fun _ _ _ _ => none
  | n + 1 => b_Model_areRecords_2 F (l_Model_areRecords_2 F n)
theorem l_Model_areRecords_2_ok (G : zG) (F : Nat) (n : Nat) :  ∀ (v0 : Nat) (v2 : Int32) (v3 : Int32) (w : zW) (r : (Int32 × zW)), l_Model_areRecords_2 F n v0 v2 v3 w = some r → zV G m_Model_areRecords 2 [(0, .ref (z0 G + v0)), (2, .int v2), (3, .int v3)] [] w 0 0 (oI r.1) r.2 := by
  induction n with
  | zero => intro v0 v2 v3 w r h; exact nomatch (show (none : Option (Int32 × zW)) = some r from h)
  | succ n ih => intro v0 v2 v3 w r h; exact b_Model_areRecords_2_ok G F (l_Model_areRecords_2 F n) ih v0 v2 v3 w r h
def b_Model_areRecords_0 (F : Nat) (v0 : Nat) (v1 : Int32) (v2 : Int32) (w : zW) : Option (Int32 × zW) := l_Model_areRecords_2 F F v0 v2 v1 w
set_option maxRecDepth 100000 in
set_option maxHeartbeats 4000000 in
theorem b_Model_areRecords_0_ok (G : zG) (F : Nat) (v0 : Nat) (v1 : Int32) (v2 : Int32) (w : zW) (r : (Int32 × zW)) (h : b_Model_areRecords_0 F v0 v1 v2 w = some r) : zV G m_Model_areRecords 0 [(0, .ref (z0 G + v0)), (1, .int v1), (2, .int v2)] [] w 0 0 (oI r.1) r.2 := by
  unfold b_Model_areRecords_0 at h
  refine V_iload_n (i := 1) d_Model_areRecords_0 rfl 1 rfl ?_
  refine V_istore_n (i := 3) d_Model_areRecords_1 rfl (by decide) rfl ?_
  refine V_lv [1, 3, 0] rfl ?_
  exact l_Model_areRecords_2_ok G F F v0 v2 v1 w _ h
def f_Model_areRecords (F : Nat) (v0 : Nat) (v1 : Int32) (v2 : Int32) (w : zW) : Option (Int32 × zW) := b_Model_areRecords_0 F v0 v1 v2 w
theorem c_Model_areRecords (G : zG) (F : Nat) (v0 : Nat) (v1 : Int32) (v2 : Int32) (w : zW) (r : (Int32 × zW)) (h : f_Model_areRecords F v0 v1 v2 w = some r) : zCT G m_Model_areRecords [.ref (z0 G + v0), .int v1, .int v2] w (oI r.1) r.2 := zCT.ofV (by decide +kernel) (Or.inl ⟨kc_Model_areRecords, rfl⟩) (Nat.le_of_ble_eq_true rfl) (b_Model_areRecords_0_ok G F v0 v1 v2 w r h)

/-! ZipArrayModel.recordIn(III)I -/
def m_Model_recordIn : zM := (⟨R_Model, "recordIn", "(III)I"⟩, prog_11_method_46_code, 5, (some .int), [], { frames := 1, cells := 0, slots := 0, locals := 21 })
theorem kc_Model_recordIn : Cond.code (mY m_Model_recordIn) (mC m_Model_recordIn) (mL m_Model_recordIn) (mT m_Model_recordIn) ∈ zTb := tb_at 1179 (by decide +kernel) rfl
theorem y_Model_recordIn : (mY m_Model_recordIn).cls ≠ "java/lang/invoke/MethodHandle" ∧ (mY m_Model_recordIn).cls ≠ "java/lang/invoke/VarHandle" ∧ (parseMethodDescriptor (mY m_Model_recordIn).desc).map (fun d => d.parameters.length) = some 3 := by decide +kernel
theorem sel_Model_recordIn : Cond.selects R_Model (mY m_Model_recordIn) (mY m_Model_recordIn) ∈ zTb := sel_at (y := mY m_Model_recordIn) (n := 33) 69 (by decide +kernel)
theorem d_Model_recordIn_0 : decode (mC m_Model_recordIn) 0 = .ok (.iload_n 1, 1) := by decide +kernel
theorem d_Model_recordIn_1 : decode (mC m_Model_recordIn) 1 = .ok (.istore 4, 2) := by decide +kernel
theorem d_Model_recordIn_3 : decode (mC m_Model_recordIn) 3 = .ok (.iload 4, 2) := by decide +kernel
theorem d_Model_recordIn_5 : decode (mC m_Model_recordIn) 5 = .ok (.iload_n 2, 1) := by decide +kernel
theorem d_Model_recordIn_6 : decode (mC m_Model_recordIn) 6 = .ok (.if_icmp .ge 52, 3) := by decide +kernel
theorem d_Model_recordIn_9 : decode (mC m_Model_recordIn) 9 = .ok (.aload_n 0, 1) := by decide +kernel
theorem d_Model_recordIn_10 : decode (mC m_Model_recordIn) 10 = .ok (.iload 4, 2) := by decide +kernel
theorem d_Model_recordIn_12 : decode (mC m_Model_recordIn) 12 = .ok (.invokevirtual 199, 3) := by decide +kernel
theorem d_Model_recordIn_15 : decode (mC m_Model_recordIn) 15 = .ok (.iconst 1, 1) := by decide +kernel
theorem d_Model_recordIn_16 : decode (mC m_Model_recordIn) 16 = .ok (.if_icmp .ne 24, 3) := by decide +kernel
theorem d_Model_recordIn_19 : decode (mC m_Model_recordIn) 19 = .ok (.aload_n 0, 1) := by decide +kernel
theorem d_Model_recordIn_20 : decode (mC m_Model_recordIn) 20 = .ok (.iload 4, 2) := by decide +kernel
theorem d_Model_recordIn_22 : decode (mC m_Model_recordIn) 22 = .ok (.iconst 2, 1) := by decide +kernel
theorem d_Model_recordIn_23 : decode (mC m_Model_recordIn) 23 = .ok (.iadd, 1) := by decide +kernel
theorem d_Model_recordIn_24 : decode (mC m_Model_recordIn) 24 = .ok (.invokevirtual 199, 3) := by decide +kernel
theorem d_Model_recordIn_27 : decode (mC m_Model_recordIn) 27 = .ok (.iload_n 3, 1) := by decide +kernel
theorem d_Model_recordIn_28 : decode (mC m_Model_recordIn) 28 = .ok (.if_icmp .lt 10, 3) := by decide +kernel
theorem d_Model_recordIn_31 : decode (mC m_Model_recordIn) 31 = .ok (.iload 4, 2) := by decide +kernel
theorem d_Model_recordIn_33 : decode (mC m_Model_recordIn) 33 = .ok (.iconst 4, 1) := by decide +kernel
theorem d_Model_recordIn_34 : decode (mC m_Model_recordIn) 34 = .ok (.iadd, 1) := by decide +kernel
theorem d_Model_recordIn_35 : decode (mC m_Model_recordIn) 35 = .ok (.goto 4, 3) := by decide +kernel
theorem d_Model_recordIn_38 : decode (mC m_Model_recordIn) 38 = .ok (.iconst (-1), 1) := by decide +kernel
theorem d_Model_recordIn_39 : decode (mC m_Model_recordIn) 39 = .ok (.ireturn, 1) := by decide +kernel
theorem d_Model_recordIn_40 : decode (mC m_Model_recordIn) 40 = .ok (.iload 4, 2) := by decide +kernel
theorem d_Model_recordIn_42 : decode (mC m_Model_recordIn) 42 = .ok (.iconst 4, 1) := by decide +kernel
theorem d_Model_recordIn_43 : decode (mC m_Model_recordIn) 43 = .ok (.iadd, 1) := by decide +kernel
theorem d_Model_recordIn_44 : decode (mC m_Model_recordIn) 44 = .ok (.aload_n 0, 1) := by decide +kernel
theorem d_Model_recordIn_45 : decode (mC m_Model_recordIn) 45 = .ok (.iload 4, 2) := by decide +kernel
theorem d_Model_recordIn_47 : decode (mC m_Model_recordIn) 47 = .ok (.iconst 2, 1) := by decide +kernel
theorem d_Model_recordIn_48 : decode (mC m_Model_recordIn) 48 = .ok (.iadd, 1) := by decide +kernel
theorem d_Model_recordIn_49 : decode (mC m_Model_recordIn) 49 = .ok (.invokevirtual 199, 3) := by decide +kernel
theorem d_Model_recordIn_52 : decode (mC m_Model_recordIn) 52 = .ok (.iadd, 1) := by decide +kernel
theorem d_Model_recordIn_53 : decode (mC m_Model_recordIn) 53 = .ok (.istore 4, 2) := by decide +kernel
theorem d_Model_recordIn_55 : decode (mC m_Model_recordIn) 55 = .ok (.goto (-52), 3) := by decide +kernel
theorem d_Model_recordIn_58 : decode (mC m_Model_recordIn) 58 = .ok (.iconst (-1), 1) := by decide +kernel
theorem d_Model_recordIn_59 : decode (mC m_Model_recordIn) 59 = .ok (.ireturn, 1) := by decide +kernel
def b_Model_recordIn_3 (F : Nat) (K3 : Nat → Int32 → Int32 → Int32 → zW → Option (Int32 × zW)) (v0 : Nat) (v2 : Int32) (v3 : Int32) (v4 : Int32) (w : zW) : Option (Int32 × zW) := if v2 ≤ v4 then (some ((-1 : Int32), w)) else ((zobj w v0 9).bind fun _ => (f_Model_two F v0 v4 w).bind fun r12 => if r12.1 = (1 : Int32) then ((zobj r12.2 v0 9).bind fun _ => (f_Model_two F v0 (v4 + (2 : Int32)) r12.2).bind fun r24 => if r24.1 < v3 then (some ((-1 : Int32), r24.2)) else (some ((v4 + (4 : Int32)), r24.2))) else ((zobj r12.2 v0 9).bind fun _ => (f_Model_two F v0 (v4 + (2 : Int32)) r12.2).bind fun r49 => K3 v0 v2 v3 ((v4 + (4 : Int32)) + r49.1) r49.2))
set_option maxRecDepth 100000 in
set_option maxHeartbeats 4000000 in
theorem b_Model_recordIn_3_ok (G : zG) (F : Nat) (K3 : Nat → Int32 → Int32 → Int32 → zW → Option (Int32 × zW)) (hK3 : ∀ (v0 : Nat) (v2 : Int32) (v3 : Int32) (v4 : Int32) (w : zW) (r : (Int32 × zW)), K3 v0 v2 v3 v4 w = some r → zV G m_Model_recordIn 3 [(0, .ref (z0 G + v0)), (2, .int v2), (3, .int v3), (4, .int v4)] [] w 0 0 (oI r.1) r.2) (v0 : Nat) (v2 : Int32) (v3 : Int32) (v4 : Int32) (w : zW) (r : (Int32 × zW)) (h : b_Model_recordIn_3 F K3 v0 v2 v3 v4 w = some r) : zV G m_Model_recordIn 3 [(0, .ref (z0 G + v0)), (2, .int v2), (3, .int v3), (4, .int v4)] [] w 0 0 (oI r.1) r.2 := by
  unfold b_Model_recordIn_3 at h
  refine V_iload (i := 4) d_Model_recordIn_3 3 rfl ?_
  refine V_iload_n (i := 2) d_Model_recordIn_5 rfl 1 rfl ?_
  refine V_icmp_ge (tgt := 58) d_Model_recordIn_6 (by decide) (fun c6 => ?_) (fun c6 => ?_)
  · rw [if_pos c6] at h
    refine V_iconst (v := -1) d_Model_recordIn_58 (by decide) ?_
    obtain rfl := Option.some.inj h
    exact V_iret rfl (by decide) (by decide) d_Model_recordIn_59
  · rw [if_neg c6] at h
    refine V_aload_n (i := 0) d_Model_recordIn_9 rfl 0 rfl ?_
    refine V_iload (i := 4) d_Model_recordIn_10 3 rfl ?_
    obtain ⟨_, eo12, h⟩ := ob h
    obtain ⟨r12, e12, h⟩ := ob h
    refine V_call (v := some (.int r12.1)) (st := []) (inv_V (N := m_Model_two) (As := [.int v4]) (ci := 9) d_Model_recordIn_12 eo12 rfl k1143 k1145 sel_Model_two kc_Model_two y_Model_two) ⟨Or.inl kc_Model_two, k10, by decide, by decide⟩ (Nat.le_of_ble_eq_true rfl) (by decide) (by decide) (c_Model_two G F v0 v4 w r12 e12) ?_
    refine V_iconst (v := 1) d_Model_recordIn_15 (by decide) ?_
    refine V_icmp_ne (tgt := 40) d_Model_recordIn_16 (by decide) (fun c16 => ?_) (fun c16 => ?_)
    · rw [if_neg c16] at h
      refine V_iload (i := 4) d_Model_recordIn_40 3 rfl ?_
      refine V_iconst (v := 4) d_Model_recordIn_42 (by decide) ?_
      refine V_iadd d_Model_recordIn_43 ?_
      refine V_aload_n (i := 0) d_Model_recordIn_44 rfl 0 rfl ?_
      refine V_iload (i := 4) d_Model_recordIn_45 3 rfl ?_
      refine V_iconst (v := 2) d_Model_recordIn_47 (by decide) ?_
      refine V_iadd d_Model_recordIn_48 ?_
      obtain ⟨_, eo49, h⟩ := ob h
      obtain ⟨r49, e49, h⟩ := ob h
      refine V_call (v := some (.int r49.1)) (st := [.int (v4 + (4 : Int32))]) (inv_V (N := m_Model_two) (As := [.int (v4 + (2 : Int32))]) (ci := 9) d_Model_recordIn_49 eo49 rfl k1143 k1145 sel_Model_two kc_Model_two y_Model_two) ⟨Or.inl kc_Model_two, k10, by decide, by decide⟩ (Nat.le_of_ble_eq_true rfl) (by decide) (by decide) (c_Model_two G F v0 (v4 + (2 : Int32)) r12.2 r49 e49) ?_
      refine V_iadd d_Model_recordIn_52 ?_
      refine V_istore (i := 4) d_Model_recordIn_53 (by decide) rfl ?_
      refine V_goto (tgt := 3) d_Model_recordIn_55 (by decide) ?_
      refine V_lv [1, 2, 3, 0] rfl ?_
      exact hK3 v0 v2 v3 ((v4 + (4 : Int32)) + r49.1) r49.2 _ h
    · rw [if_pos c16] at h
      refine V_aload_n (i := 0) d_Model_recordIn_19 rfl 0 rfl ?_
      refine V_iload (i := 4) d_Model_recordIn_20 3 rfl ?_
      refine V_iconst (v := 2) d_Model_recordIn_22 (by decide) ?_
      refine V_iadd d_Model_recordIn_23 ?_
      obtain ⟨_, eo24, h⟩ := ob h
      obtain ⟨r24, e24, h⟩ := ob h
      refine V_call (v := some (.int r24.1)) (st := []) (inv_V (N := m_Model_two) (As := [.int (v4 + (2 : Int32))]) (ci := 9) d_Model_recordIn_24 eo24 rfl k1143 k1145 sel_Model_two kc_Model_two y_Model_two) ⟨Or.inl kc_Model_two, k10, by decide, by decide⟩ (Nat.le_of_ble_eq_true rfl) (by decide) (by decide) (c_Model_two G F v0 (v4 + (2 : Int32)) r12.2 r24 e24) ?_
      refine V_iload_n (i := 3) d_Model_recordIn_27 rfl 2 rfl ?_
      refine V_icmp_lt (tgt := 38) d_Model_recordIn_28 (by decide) (fun c28 => ?_) (fun c28 => ?_)
      · rw [if_pos c28] at h
        refine V_iconst (v := -1) d_Model_recordIn_38 (by decide) ?_
        obtain rfl := Option.some.inj h
        exact V_iret rfl (by decide) (by decide) d_Model_recordIn_39
      · rw [if_neg c28] at h
        refine V_iload (i := 4) d_Model_recordIn_31 3 rfl ?_
        refine V_iconst (v := 4) d_Model_recordIn_33 (by decide) ?_
        refine V_iadd d_Model_recordIn_34 ?_
        refine V_goto (tgt := 39) d_Model_recordIn_35 (by decide) ?_
        obtain rfl := Option.some.inj h
        exact V_iret rfl (by decide) (by decide) d_Model_recordIn_39
def l_Model_recordIn_3 (F : Nat) : Nat → Nat → Int32 → Int32 → Int32 → zW → Option (Int32 × zW)
  | 0 => fun _ _ _ _ _ => none
  | n + 1 => b_Model_recordIn_3 F (l_Model_recordIn_3 F n)
theorem l_Model_recordIn_3_ok (G : zG) (F : Nat) (n : Nat) :  ∀ (v0 : Nat) (v2 : Int32) (v3 : Int32) (v4 : Int32) (w : zW) (r : (Int32 × zW)), l_Model_recordIn_3 F n v0 v2 v3 v4 w = some r → zV G m_Model_recordIn 3 [(0, .ref (z0 G + v0)), (2, .int v2), (3, .int v3), (4, .int v4)] [] w 0 0 (oI r.1) r.2 := by
  induction n with
  | zero => intro v0 v2 v3 v4 w r h; exact nomatch (show (none : Option (Int32 × zW)) = some r from h)
  | succ n ih => intro v0 v2 v3 v4 w r h; exact b_Model_recordIn_3_ok G F (l_Model_recordIn_3 F n) ih v0 v2 v3 v4 w r h
def b_Model_recordIn_0 (F : Nat) (v0 : Nat) (v1 : Int32) (v2 : Int32) (v3 : Int32) (w : zW) : Option (Int32 × zW) := l_Model_recordIn_3 F F v0 v2 v3 v1 w
set_option maxRecDepth 100000 in
set_option maxHeartbeats 4000000 in
theorem b_Model_recordIn_0_ok (G : zG) (F : Nat) (v0 : Nat) (v1 : Int32) (v2 : Int32) (v3 : Int32) (w : zW) (r : (Int32 × zW)) (h : b_Model_recordIn_0 F v0 v1 v2 v3 w = some r) : zV G m_Model_recordIn 0 [(0, .ref (z0 G + v0)), (1, .int v1), (2, .int v2), (3, .int v3)] [] w 0 0 (oI r.1) r.2 := by
  unfold b_Model_recordIn_0 at h
  refine V_iload_n (i := 1) d_Model_recordIn_0 rfl 1 rfl ?_
  refine V_istore (i := 4) d_Model_recordIn_1 (by decide) rfl ?_
  refine V_lv [1, 3, 4, 0] rfl ?_
  exact l_Model_recordIn_3_ok G F F v0 v2 v3 v1 w _ h
def f_Model_recordIn (F : Nat) (v0 : Nat) (v1 : Int32) (v2 : Int32) (v3 : Int32) (w : zW) : Option (Int32 × zW) := b_Model_recordIn_0 F v0 v1 v2 v3 w
theorem c_Model_recordIn (G : zG) (F : Nat) (v0 : Nat) (v1 : Int32) (v2 : Int32) (v3 : Int32) (w : zW) (r : (Int32 × zW)) (h : f_Model_recordIn F v0 v1 v2 v3 w = some r) : zCT G m_Model_recordIn [.ref (z0 G + v0), .int v1, .int v2, .int v3] w (oI r.1) r.2 := zCT.ofV (by decide +kernel) (Or.inl ⟨kc_Model_recordIn, rfl⟩) (Nat.le_of_ble_eq_true rfl) (b_Model_recordIn_0_ok G F v0 v1 v2 v3 w r h)

/-! ZipArrayModel.nameAt(II)I -/
def m_Model_nameAt : zM := (⟨R_Model, "nameAt", "(II)I"⟩, prog_11_method_47_code, 6, (some .int), [], { frames := 0, cells := 0, slots := 0, locals := 0 })
theorem kc_Model_nameAt : Cond.code (mY m_Model_nameAt) (mC m_Model_nameAt) (mL m_Model_nameAt) (mT m_Model_nameAt) ∈ zTb := tb_at 1175 (by decide +kernel) rfl
theorem y_Model_nameAt : (mY m_Model_nameAt).cls ≠ "java/lang/invoke/MethodHandle" ∧ (mY m_Model_nameAt).cls ≠ "java/lang/invoke/VarHandle" ∧ (parseMethodDescriptor (mY m_Model_nameAt).desc).map (fun d => d.parameters.length) = some 2 := by decide +kernel
theorem sel_Model_nameAt : Cond.selects R_Model (mY m_Model_nameAt) (mY m_Model_nameAt) ∈ zTb := sel_at (y := mY m_Model_nameAt) (n := 33) 68 (by decide +kernel)
theorem d_Model_nameAt_0 : decode (mC m_Model_nameAt) 0 = .ok (.iconst 0, 1) := by decide +kernel
theorem d_Model_nameAt_1 : decode (mC m_Model_nameAt) 1 = .ok (.istore_n 3, 1) := by decide +kernel
theorem d_Model_nameAt_2 : decode (mC m_Model_nameAt) 2 = .ok (.iconst 0, 1) := by decide +kernel
theorem d_Model_nameAt_3 : decode (mC m_Model_nameAt) 3 = .ok (.istore 4, 2) := by decide +kernel
theorem d_Model_nameAt_5 : decode (mC m_Model_nameAt) 5 = .ok (.iload 4, 2) := by decide +kernel
theorem d_Model_nameAt_7 : decode (mC m_Model_nameAt) 7 = .ok (.iload_n 2, 1) := by decide +kernel
theorem d_Model_nameAt_8 : decode (mC m_Model_nameAt) 8 = .ok (.if_icmp .ge 61, 3) := by decide +kernel
theorem d_Model_nameAt_11 : decode (mC m_Model_nameAt) 11 = .ok (.iload_n 2, 1) := by decide +kernel
theorem d_Model_nameAt_12 : decode (mC m_Model_nameAt) 12 = .ok (.iconst 4, 1) := by decide +kernel
theorem d_Model_nameAt_13 : decode (mC m_Model_nameAt) 13 = .ok (.if_icmp .ge 56, 3) := by decide +kernel
theorem d_Model_nameAt_16 : decode (mC m_Model_nameAt) 16 = .ok (.aload_n 0, 1) := by decide +kernel
theorem d_Model_nameAt_17 : decode (mC m_Model_nameAt) 17 = .ok (.getfield 13, 3) := by decide +kernel
theorem d_Model_nameAt_20 : decode (mC m_Model_nameAt) 20 = .ok (.iload_n 1, 1) := by decide +kernel
theorem d_Model_nameAt_21 : decode (mC m_Model_nameAt) 21 = .ok (.iload 4, 2) := by decide +kernel
theorem d_Model_nameAt_23 : decode (mC m_Model_nameAt) 23 = .ok (.iadd, 1) := by decide +kernel
theorem d_Model_nameAt_24 : decode (mC m_Model_nameAt) 24 = .ok (.iaload, 1) := by decide +kernel
theorem d_Model_nameAt_25 : decode (mC m_Model_nameAt) 25 = .ok (.istore 5, 2) := by decide +kernel
theorem d_Model_nameAt_27 : decode (mC m_Model_nameAt) 27 = .ok (.iload 5, 2) := by decide +kernel
theorem d_Model_nameAt_29 : decode (mC m_Model_nameAt) 29 = .ok (.bipush 33, 2) := by decide +kernel
theorem d_Model_nameAt_31 : decode (mC m_Model_nameAt) 31 = .ok (.if_icmp .lt 19, 3) := by decide +kernel
theorem d_Model_nameAt_34 : decode (mC m_Model_nameAt) 34 = .ok (.iload 5, 2) := by decide +kernel
theorem d_Model_nameAt_36 : decode (mC m_Model_nameAt) 36 = .ok (.bipush 126, 2) := by decide +kernel
theorem d_Model_nameAt_38 : decode (mC m_Model_nameAt) 38 = .ok (.if_icmp .gt 12, 3) := by decide +kernel
theorem d_Model_nameAt_41 : decode (mC m_Model_nameAt) 41 = .ok (.iload 4, 2) := by decide +kernel
theorem d_Model_nameAt_43 : decode (mC m_Model_nameAt) 43 = .ok (.ifCond .le 11, 3) := by decide +kernel
theorem d_Model_nameAt_46 : decode (mC m_Model_nameAt) 46 = .ok (.iload_n 3, 1) := by decide +kernel
theorem d_Model_nameAt_47 : decode (mC m_Model_nameAt) 47 = .ok (.ifCond .ne 7, 3) := by decide +kernel
theorem d_Model_nameAt_50 : decode (mC m_Model_nameAt) 50 = .ok (.iconst 0, 1) := by decide +kernel
theorem d_Model_nameAt_51 : decode (mC m_Model_nameAt) 51 = .ok (.goto 11, 3) := by decide +kernel
theorem d_Model_nameAt_54 : decode (mC m_Model_nameAt) 54 = .ok (.sipush 256, 3) := by decide +kernel
theorem d_Model_nameAt_57 : decode (mC m_Model_nameAt) 57 = .ok (.iload_n 3, 1) := by decide +kernel
theorem d_Model_nameAt_58 : decode (mC m_Model_nameAt) 58 = .ok (.imul, 1) := by decide +kernel
theorem d_Model_nameAt_59 : decode (mC m_Model_nameAt) 59 = .ok (.iload 5, 2) := by decide +kernel
theorem d_Model_nameAt_61 : decode (mC m_Model_nameAt) 61 = .ok (.iadd, 1) := by decide +kernel
theorem d_Model_nameAt_62 : decode (mC m_Model_nameAt) 62 = .ok (.istore_n 3, 1) := by decide +kernel
theorem d_Model_nameAt_63 : decode (mC m_Model_nameAt) 63 = .ok (.iinc 4 1, 3) := by decide +kernel
theorem d_Model_nameAt_66 : decode (mC m_Model_nameAt) 66 = .ok (.goto (-61), 3) := by decide +kernel
theorem d_Model_nameAt_69 : decode (mC m_Model_nameAt) 69 = .ok (.iload_n 3, 1) := by decide +kernel
theorem d_Model_nameAt_70 : decode (mC m_Model_nameAt) 70 = .ok (.ireturn, 1) := by decide +kernel
def b_Model_nameAt_69 (F : Nat) (v3 : Int32) (w : zW) : Option (Int32 × zW) := some (v3, w)
set_option maxRecDepth 100000 in
set_option maxHeartbeats 4000000 in
theorem b_Model_nameAt_69_ok (G : zG) (F : Nat) (v3 : Int32) (w : zW) (r : (Int32 × zW)) (h : b_Model_nameAt_69 F v3 w = some r) : zV G m_Model_nameAt 69 [(3, .int v3)] [] w 0 0 (oI r.1) r.2 := by
  unfold b_Model_nameAt_69 at h
  refine V_iload_n (i := 3) d_Model_nameAt_69 rfl 0 rfl ?_
  obtain rfl := Option.some.inj h
  exact V_iret rfl (by decide) (by decide) d_Model_nameAt_70
def b_Model_nameAt_62 (F : Nat) (K5 : Nat → Int32 → Int32 → Int32 → Int32 → zW → Option (Int32 × zW)) (v0 : Nat) (v1 : Int32) (v2 : Int32) (v4 : Int32) (s0 : Int32) (w : zW) : Option (Int32 × zW) := K5 v0 v1 v2 s0 (v4 + (1 : Int32)) w
set_option maxRecDepth 100000 in
set_option maxHeartbeats 4000000 in
theorem b_Model_nameAt_62_ok (G : zG) (F : Nat) (K5 : Nat → Int32 → Int32 → Int32 → Int32 → zW → Option (Int32 × zW)) (hK5 : ∀ (v0 : Nat) (v1 : Int32) (v2 : Int32) (v3 : Int32) (v4 : Int32) (w : zW) (r : (Int32 × zW)), K5 v0 v1 v2 v3 v4 w = some r → zV G m_Model_nameAt 5 [(0, .ref (z0 G + v0)), (1, .int v1), (2, .int v2), (3, .int v3), (4, .int v4)] [] w 0 0 (oI r.1) r.2) (v0 : Nat) (v1 : Int32) (v2 : Int32) (v4 : Int32) (s0 : Int32) (w : zW) (r : (Int32 × zW)) (h : b_Model_nameAt_62 F K5 v0 v1 v2 v4 s0 w = some r) : zV G m_Model_nameAt 62 [(0, .ref (z0 G + v0)), (1, .int v1), (2, .int v2), (4, .int v4)] [.int s0] w 0 0 (oI r.1) r.2 := by
  unfold b_Model_nameAt_62 at h
  refine V_istore_n (i := 3) d_Model_nameAt_62 rfl (by decide) rfl ?_
  refine V_iinc (i := 4) (v := (v4 + (1 : Int32))) d_Model_nameAt_63 4 rfl (congrArg (fun y => v4 + y) (by decide : Int32.ofInt (1) = (1 : Int32))) (by decide) rfl ?_
  refine V_goto (tgt := 5) d_Model_nameAt_66 (by decide) ?_
  refine V_lv [2, 3, 4, 1, 0] rfl ?_
  exact hK5 v0 v1 v2 s0 (v4 + (1 : Int32)) w _ h
def b_Model_nameAt_54 (F : Nat) (K5 : Nat → Int32 → Int32 → Int32 → Int32 → zW → Option (Int32 × zW)) (v0 : Nat) (v1 : Int32) (v2 : Int32) (v3 : Int32) (v4 : Int32) (v5 : Int32) (w : zW) : Option (Int32 × zW) := b_Model_nameAt_62 F K5 v0 v1 v2 v4 (((256 : Int32) * v3) + v5) w
set_option maxRecDepth 100000 in
set_option maxHeartbeats 4000000 in
theorem b_Model_nameAt_54_ok (G : zG) (F : Nat) (K5 : Nat → Int32 → Int32 → Int32 → Int32 → zW → Option (Int32 × zW)) (hK5 : ∀ (v0 : Nat) (v1 : Int32) (v2 : Int32) (v3 : Int32) (v4 : Int32) (w : zW) (r : (Int32 × zW)), K5 v0 v1 v2 v3 v4 w = some r → zV G m_Model_nameAt 5 [(0, .ref (z0 G + v0)), (1, .int v1), (2, .int v2), (3, .int v3), (4, .int v4)] [] w 0 0 (oI r.1) r.2) (v0 : Nat) (v1 : Int32) (v2 : Int32) (v3 : Int32) (v4 : Int32) (v5 : Int32) (w : zW) (r : (Int32 × zW)) (h : b_Model_nameAt_54 F K5 v0 v1 v2 v3 v4 v5 w = some r) : zV G m_Model_nameAt 54 [(0, .ref (z0 G + v0)), (1, .int v1), (2, .int v2), (3, .int v3), (4, .int v4), (5, .int v5)] [] w 0 0 (oI r.1) r.2 := by
  unfold b_Model_nameAt_54 at h
  refine V_sipush (v := 256) d_Model_nameAt_54 (by decide) ?_
  refine V_iload_n (i := 3) d_Model_nameAt_57 rfl 3 rfl ?_
  refine V_imul d_Model_nameAt_58 ?_
  refine V_iload (i := 5) d_Model_nameAt_59 5 rfl ?_
  refine V_iadd d_Model_nameAt_61 ?_
  refine V_lv [0, 1, 2, 4] rfl ?_
  exact b_Model_nameAt_62_ok G F K5 hK5 v0 v1 v2 v4 (((256 : Int32) * v3) + v5) w _ h
def b_Model_nameAt_50 (F : Nat) (K5 : Nat → Int32 → Int32 → Int32 → Int32 → zW → Option (Int32 × zW)) (v0 : Nat) (v1 : Int32) (v2 : Int32) (v4 : Int32) (w : zW) : Option (Int32 × zW) := b_Model_nameAt_62 F K5 v0 v1 v2 v4 (0 : Int32) w
set_option maxRecDepth 100000 in
set_option maxHeartbeats 4000000 in
theorem b_Model_nameAt_50_ok (G : zG) (F : Nat) (K5 : Nat → Int32 → Int32 → Int32 → Int32 → zW → Option (Int32 × zW)) (hK5 : ∀ (v0 : Nat) (v1 : Int32) (v2 : Int32) (v3 : Int32) (v4 : Int32) (w : zW) (r : (Int32 × zW)), K5 v0 v1 v2 v3 v4 w = some r → zV G m_Model_nameAt 5 [(0, .ref (z0 G + v0)), (1, .int v1), (2, .int v2), (3, .int v3), (4, .int v4)] [] w 0 0 (oI r.1) r.2) (v0 : Nat) (v1 : Int32) (v2 : Int32) (v4 : Int32) (w : zW) (r : (Int32 × zW)) (h : b_Model_nameAt_50 F K5 v0 v1 v2 v4 w = some r) : zV G m_Model_nameAt 50 [(0, .ref (z0 G + v0)), (1, .int v1), (2, .int v2), (4, .int v4)] [] w 0 0 (oI r.1) r.2 := by
  unfold b_Model_nameAt_50 at h
  refine V_iconst (v := 0) d_Model_nameAt_50 (by decide) ?_
  refine V_goto (tgt := 62) d_Model_nameAt_51 (by decide) ?_
  exact b_Model_nameAt_62_ok G F K5 hK5 v0 v1 v2 v4 (0 : Int32) w _ h
def b_Model_nameAt_5 (F : Nat) (K5 : Nat → Int32 → Int32 → Int32 → Int32 → zW → Option (Int32 × zW)) (v0 : Nat) (v1 : Int32) (v2 : Int32) (v3 : Int32) (v4 : Int32) (w : zW) : Option (Int32 × zW) := if v2 ≤ v4 then (b_Model_nameAt_69 F v3 w) else (if (4 : Int32) ≤ v2 then (b_Model_nameAt_69 F v3 w) else ((getR w v0 9 4).bind fun x17 => (aget w x17 (v1 + v4)).bind fun x24 => if x24 < (33 : Int32) then (b_Model_nameAt_50 F K5 v0 v1 v2 v4 w) else (if (126 : Int32) < x24 then (b_Model_nameAt_50 F K5 v0 v1 v2 v4 w) else (if v4 ≤ 0 then (b_Model_nameAt_54 F K5 v0 v1 v2 v3 v4 x24 w) else (if v3 = 0 then (b_Model_nameAt_50 F K5 v0 v1 v2 v4 w) else (b_Model_nameAt_54 F K5 v0 v1 v2 v3 v4 x24 w))))))
set_option maxRecDepth 100000 in
set_option maxHeartbeats 4000000 in
theorem b_Model_nameAt_5_ok (G : zG) (F : Nat) (K5 : Nat → Int32 → Int32 → Int32 → Int32 → zW → Option (Int32 × zW)) (hK5 : ∀ (v0 : Nat) (v1 : Int32) (v2 : Int32) (v3 : Int32) (v4 : Int32) (w : zW) (r : (Int32 × zW)), K5 v0 v1 v2 v3 v4 w = some r → zV G m_Model_nameAt 5 [(0, .ref (z0 G + v0)), (1, .int v1), (2, .int v2), (3, .int v3), (4, .int v4)] [] w 0 0 (oI r.1) r.2) (v0 : Nat) (v1 : Int32) (v2 : Int32) (v3 : Int32) (v4 : Int32) (w : zW) (r : (Int32 × zW)) (h : b_Model_nameAt_5 F K5 v0 v1 v2 v3 v4 w = some r) : zV G m_Model_nameAt 5 [(0, .ref (z0 G + v0)), (1, .int v1), (2, .int v2), (3, .int v3), (4, .int v4)] [] w 0 0 (oI r.1) r.2 := by
  unfold b_Model_nameAt_5 at h
  refine V_iload (i := 4) d_Model_nameAt_5 4 rfl ?_
  refine V_iload_n (i := 2) d_Model_nameAt_7 rfl 2 rfl ?_
  refine V_icmp_ge (tgt := 69) d_Model_nameAt_8 (by decide) (fun c8 => ?_) (fun c8 => ?_)
  · rw [if_pos c8] at h
    refine V_lv [3] rfl ?_
    exact b_Model_nameAt_69_ok G F v3 w _ h
  · rw [if_neg c8] at h
    refine V_iload_n (i := 2) d_Model_nameAt_11 rfl 2 rfl ?_
    refine V_iconst (v := 4) d_Model_nameAt_12 (by decide) ?_
    refine V_icmp_ge (tgt := 69) d_Model_nameAt_13 (by decide) (fun c13 => ?_) (fun c13 => ?_)
    · rw [if_pos c13] at h
      refine V_lv [3] rfl ?_
      exact b_Model_nameAt_69_ok G F v3 w _ h
    · rw [if_neg c13] at h
      refine V_aload_n (i := 0) d_Model_nameAt_16 rfl 0 rfl ?_
      obtain ⟨x17, e17, h⟩ := ob h
      refine V_getR (ci := 9) (k := 4) d_Model_nameAt_17 e17 rfl (by decide) in_Model k886 ?_
      refine V_iload_n (i := 1) d_Model_nameAt_20 rfl 1 rfl ?_
      refine V_iload (i := 4) d_Model_nameAt_21 4 rfl ?_
      refine V_iadd d_Model_nameAt_23 ?_
      obtain ⟨x24, e24, h⟩ := ob h
      refine V_aget d_Model_nameAt_24 e24 ?_
      refine V_istore (i := 5) d_Model_nameAt_25 (by decide) rfl ?_
      refine V_iload (i := 5) d_Model_nameAt_27 0 rfl ?_
      refine V_bipush (v := 33) d_Model_nameAt_29 (by decide) ?_
      refine V_icmp_lt (tgt := 50) d_Model_nameAt_31 (by decide) (fun c31 => ?_) (fun c31 => ?_)
      · rw [if_pos c31] at h
        refine V_lv [1, 2, 3, 5] rfl ?_
        exact b_Model_nameAt_50_ok G F K5 hK5 v0 v1 v2 v4 w _ h
      · rw [if_neg c31] at h
        refine V_iload (i := 5) d_Model_nameAt_34 0 rfl ?_
        refine V_bipush (v := 126) d_Model_nameAt_36 (by decide) ?_
        refine V_icmp_gt (tgt := 50) d_Model_nameAt_38 (by decide) (fun c38 => ?_) (fun c38 => ?_)
        · rw [if_pos c38] at h
          refine V_lv [1, 2, 3, 5] rfl ?_
          exact b_Model_nameAt_50_ok G F K5 hK5 v0 v1 v2 v4 w _ h
        · rw [if_neg c38] at h
          refine V_iload (i := 4) d_Model_nameAt_41 5 rfl ?_
          refine V_if_le (tgt := 54) d_Model_nameAt_43 (by decide) (fun c43 => ?_) (fun c43 => ?_)
          · rw [if_pos c43] at h
            refine V_lv [1, 2, 3, 4, 5, 0] rfl ?_
            exact b_Model_nameAt_54_ok G F K5 hK5 v0 v1 v2 v3 v4 x24 w _ h
          · rw [if_neg c43] at h
            refine V_iload_n (i := 3) d_Model_nameAt_46 rfl 4 rfl ?_
            refine V_if_ne (tgt := 54) d_Model_nameAt_47 (by decide) (fun c47 => ?_) (fun c47 => ?_)
            · rw [if_neg c47] at h
              refine V_lv [1, 2, 3, 4, 5, 0] rfl ?_
              exact b_Model_nameAt_54_ok G F K5 hK5 v0 v1 v2 v3 v4 x24 w _ h
            · rw [if_pos c47] at h
              refine V_lv [1, 2, 3, 5] rfl ?_
              exact b_Model_nameAt_50_ok G F K5 hK5 v0 v1 v2 v4 w _ h
def l_Model_nameAt_5 (F : Nat) : Nat → Nat → Int32 → Int32 → Int32 → Int32 → zW → Option (Int32 × zW)
  | 0 => fun _ _ _ _ _ _ => none
  | n + 1 => b_Model_nameAt_5 F (l_Model_nameAt_5 F n)
theorem l_Model_nameAt_5_ok (G : zG) (F : Nat) (n : Nat) :  ∀ (v0 : Nat) (v1 : Int32) (v2 : Int32) (v3 : Int32) (v4 : Int32) (w : zW) (r : (Int32 × zW)), l_Model_nameAt_5 F n v0 v1 v2 v3 v4 w = some r → zV G m_Model_nameAt 5 [(0, .ref (z0 G + v0)), (1, .int v1), (2, .int v2), (3, .int v3), (4, .int v4)] [] w 0 0 (oI r.1) r.2 := by
  induction n with
  | zero => intro v0 v1 v2 v3 v4 w r h; exact nomatch (show (none : Option (Int32 × zW)) = some r from h)
  | succ n ih => intro v0 v1 v2 v3 v4 w r h; exact b_Model_nameAt_5_ok G F (l_Model_nameAt_5 F n) ih v0 v1 v2 v3 v4 w r h
def b_Model_nameAt_0 (F : Nat) (v0 : Nat) (v1 : Int32) (v2 : Int32) (w : zW) : Option (Int32 × zW) := l_Model_nameAt_5 F F v0 v1 v2 (0 : Int32) (0 : Int32) w
set_option maxRecDepth 100000 in
set_option maxHeartbeats 4000000 in
theorem b_Model_nameAt_0_ok (G : zG) (F : Nat) (v0 : Nat) (v1 : Int32) (v2 : Int32) (w : zW) (r : (Int32 × zW)) (h : b_Model_nameAt_0 F v0 v1 v2 w = some r) : zV G m_Model_nameAt 0 [(0, .ref (z0 G + v0)), (1, .int v1), (2, .int v2)] [] w 0 0 (oI r.1) r.2 := by
  unfold b_Model_nameAt_0 at h
  refine V_iconst (v := 0) d_Model_nameAt_0 (by decide) ?_
  refine V_istore_n (i := 3) d_Model_nameAt_1 rfl (by decide) rfl ?_
  refine V_iconst (v := 0) d_Model_nameAt_2 (by decide) ?_
  refine V_istore (i := 4) d_Model_nameAt_3 (by decide) rfl ?_
  refine V_lv [2, 3, 4, 1, 0] rfl ?_
  exact l_Model_nameAt_5_ok G F F v0 v1 v2 (0 : Int32) (0 : Int32) w _ h
def f_Model_nameAt (F : Nat) (v0 : Nat) (v1 : Int32) (v2 : Int32) (w : zW) : Option (Int32 × zW) := b_Model_nameAt_0 F v0 v1 v2 w
theorem c_Model_nameAt (G : zG) (F : Nat) (v0 : Nat) (v1 : Int32) (v2 : Int32) (w : zW) (r : (Int32 × zW)) (h : f_Model_nameAt F v0 v1 v2 w = some r) : zCT G m_Model_nameAt [.ref (z0 G + v0), .int v1, .int v2] w (oI r.1) r.2 := zCT.ofV (by decide +kernel) (Or.inl ⟨kc_Model_nameAt, rfl⟩) (Nat.le_of_ble_eq_true rfl) (b_Model_nameAt_0_ok G F v0 v1 v2 w r h)

/-! ZipArrayModel.told(IZI)J -/
def m_Model_told : zM := (⟨R_Model, "told", "(IZI)J"⟩, prog_11_method_48_code, 4, (some .long), [], { frames := 1, cells := 0, slots := 0, locals := 25 })
theorem k1184 : Cond.constantLong R_Model 228 (-1) ∈ zTb := tb_at 1184 (by decide +kernel) rfl
theorem kc_Model_told : Cond.code (mY m_Model_told) (mC m_Model_told) (mL m_Model_told) (mT m_Model_told) ∈ zTb := tb_at 1183 (by decide +kernel) rfl
theorem y_Model_told : (mY m_Model_told).cls ≠ "java/lang/invoke/MethodHandle" ∧ (mY m_Model_told).cls ≠ "java/lang/invoke/VarHandle" ∧ (parseMethodDescriptor (mY m_Model_told).desc).map (fun d => d.parameters.length) = some 3 := by decide +kernel
theorem sel_Model_told : Cond.selects R_Model (mY m_Model_told) (mY m_Model_told) ∈ zTb := sel_at (y := mY m_Model_told) (n := 33) 70 (by decide +kernel)
theorem d_Model_told_0 : decode (mC m_Model_told) 0 = .ok (.iload_n 2, 1) := by decide +kernel
theorem d_Model_told_1 : decode (mC m_Model_told) 1 = .ok (.ifCond .ne 12, 3) := by decide +kernel
theorem d_Model_told_4 : decode (mC m_Model_told) 4 = .ok (.aload_n 0, 1) := by decide +kernel
theorem d_Model_told_5 : decode (mC m_Model_told) 5 = .ok (.iload_n 1, 1) := by decide +kernel
theorem d_Model_told_6 : decode (mC m_Model_told) 6 = .ok (.iconst 4, 1) := by decide +kernel
theorem d_Model_told_7 : decode (mC m_Model_told) 7 = .ok (.invokevirtual 188, 3) := by decide +kernel
theorem d_Model_told_10 : decode (mC m_Model_told) 10 = .ok (.goto 20, 3) := by decide +kernel
theorem d_Model_told_13 : decode (mC m_Model_told) 13 = .ok (.iload_n 3, 1) := by decide +kernel
theorem d_Model_told_14 : decode (mC m_Model_told) 14 = .ok (.ifCond .ge 9, 3) := by decide +kernel
theorem d_Model_told_17 : decode (mC m_Model_told) 17 = .ok (.ldc2_w 228, 3) := by decide +kernel
theorem d_Model_told_20 : decode (mC m_Model_told) 20 = .ok (.goto 10, 3) := by decide +kernel
theorem d_Model_told_23 : decode (mC m_Model_told) 23 = .ok (.aload_n 0, 1) := by decide +kernel
theorem d_Model_told_24 : decode (mC m_Model_told) 24 = .ok (.iload_n 3, 1) := by decide +kernel
theorem d_Model_told_25 : decode (mC m_Model_told) 25 = .ok (.bipush 8, 2) := by decide +kernel
theorem d_Model_told_27 : decode (mC m_Model_told) 27 = .ok (.invokevirtual 188, 3) := by decide +kernel
theorem d_Model_told_30 : decode (mC m_Model_told) 30 = .ok (.lreturn, 1) := by decide +kernel
def b_Model_told_0 (F : Nat) (v0 : Nat) (v1 : Int32) (v2 : Int32) (v3 : Int32) (w : zW) : Option (Int64 × zW) := if v2 = 0 then ((zobj w v0 9).bind fun _ => (f_Model_number F v0 v1 (4 : Int32) w).bind fun r7 => some (r7.1, r7.2)) else (if 0 ≤ v3 then ((zobj w v0 9).bind fun _ => (f_Model_number F v0 v3 (8 : Int32) w).bind fun r27 => some (r27.1, r27.2)) else (some ((-1 : Int64), w)))
set_option maxRecDepth 100000 in
set_option maxHeartbeats 4000000 in
theorem b_Model_told_0_ok (G : zG) (F : Nat) (v0 : Nat) (v1 : Int32) (v2 : Int32) (v3 : Int32) (w : zW) (r : (Int64 × zW)) (h : b_Model_told_0 F v0 v1 v2 v3 w = some r) : zV G m_Model_told 0 [(0, .ref (z0 G + v0)), (1, .int v1), (2, .int v2), (3, .int v3)] [] w 0 0 (oJ r.1) r.2 := by
  unfold b_Model_told_0 at h
  refine V_iload_n (i := 2) d_Model_told_0 rfl 2 rfl ?_
  refine V_if_ne (tgt := 13) d_Model_told_1 (by decide) (fun c1 => ?_) (fun c1 => ?_)
  · rw [if_neg c1] at h
    refine V_iload_n (i := 3) d_Model_told_13 rfl 3 rfl ?_
    refine V_if_ge (tgt := 23) d_Model_told_14 (by decide) (fun c14 => ?_) (fun c14 => ?_)
    · rw [if_pos c14] at h
      refine V_aload_n (i := 0) d_Model_told_23 rfl 0 rfl ?_
      refine V_iload_n (i := 3) d_Model_told_24 rfl 3 rfl ?_
      refine V_bipush (v := 8) d_Model_told_25 (by decide) ?_
      obtain ⟨_, eo27, h⟩ := ob h
      obtain ⟨r27, e27, h⟩ := ob h
      refine V_call (v := some (.long r27.1)) (st := []) (inv_V (N := m_Model_number) (As := [.int v3, .int (8 : Int32)]) (ci := 9) d_Model_told_27 eo27 rfl k1138 k1140 sel_Model_number kc_Model_number y_Model_number) ⟨Or.inl kc_Model_number, k10, by decide, by decide⟩ (Nat.le_of_ble_eq_true rfl) (by decide) (by decide) (c_Model_number G F v0 v3 (8 : Int32) w r27 e27) ?_
      obtain rfl := Option.some.inj h
      exact V_lret rfl (by decide) (by decide) d_Model_told_30
    · rw [if_neg c14] at h
      refine V_ldc2 (v := -1) d_Model_told_17 k1184 ?_
      refine V_goto (tgt := 30) d_Model_told_20 (by decide) ?_
      obtain rfl := Option.some.inj h
      exact V_lret rfl (by decide) (by decide) d_Model_told_30
  · rw [if_pos c1] at h
    refine V_aload_n (i := 0) d_Model_told_4 rfl 0 rfl ?_
    refine V_iload_n (i := 1) d_Model_told_5 rfl 1 rfl ?_
    refine V_iconst (v := 4) d_Model_told_6 (by decide) ?_
    obtain ⟨_, eo7, h⟩ := ob h
    obtain ⟨r7, e7, h⟩ := ob h
    refine V_call (v := some (.long r7.1)) (st := []) (inv_V (N := m_Model_number) (As := [.int v1, .int (4 : Int32)]) (ci := 9) d_Model_told_7 eo7 rfl k1138 k1140 sel_Model_number kc_Model_number y_Model_number) ⟨Or.inl kc_Model_number, k10, by decide, by decide⟩ (Nat.le_of_ble_eq_true rfl) (by decide) (by decide) (c_Model_number G F v0 v1 (4 : Int32) w r7 e7) ?_
    refine V_goto (tgt := 30) d_Model_told_10 (by decide) ?_
    obtain rfl := Option.some.inj h
    exact V_lret rfl (by decide) (by decide) d_Model_told_30
def f_Model_told (F : Nat) (v0 : Nat) (v1 : Int32) (v2 : Int32) (v3 : Int32) (w : zW) : Option (Int64 × zW) := b_Model_told_0 F v0 v1 v2 v3 w
theorem c_Model_told (G : zG) (F : Nat) (v0 : Nat) (v1 : Int32) (v2 : Int32) (v3 : Int32) (w : zW) (r : (Int64 × zW)) (h : f_Model_told F v0 v1 v2 v3 w = some r) : zCT G m_Model_told [.ref (z0 G + v0), .int v1, .int v2, .int v3] w (oJ r.1) r.2 := zCT.ofV (by decide +kernel) (Or.inl ⟨kc_Model_told, rfl⟩) (Nat.le_of_ble_eq_true rfl) (b_Model_told_0_ok G F v0 v1 v2 v3 w r h)

/-! ZipArrayModel.isEight(I)Z -/
def m_Model_isEight : zM := (⟨R_Model, "isEight", "(I)Z"⟩, prog_11_method_50_code, 1, (some .boolean), [], { frames := 0, cells := 0, slots := 0, locals := 0 })
theorem kc_Model_isEight : Cond.code (mY m_Model_isEight) (mC m_Model_isEight) (mL m_Model_isEight) (mT m_Model_isEight) ∈ zTb := tb_at 1187 (by decide +kernel) rfl
theorem y_Model_isEight : (mY m_Model_isEight).cls ≠ "java/lang/invoke/MethodHandle" ∧ (mY m_Model_isEight).cls ≠ "java/lang/invoke/VarHandle" ∧ (parseMethodDescriptor (mY m_Model_isEight).desc).map (fun d => d.parameters.length) = some 1 := by decide +kernel
theorem d_Model_isEight_0 : decode (mC m_Model_isEight) 0 = .ok (.iload_n 0, 1) := by decide +kernel
theorem d_Model_isEight_1 : decode (mC m_Model_isEight) 1 = .ok (.ifCond .eq 9, 3) := by decide +kernel
theorem d_Model_isEight_4 : decode (mC m_Model_isEight) 4 = .ok (.iload_n 0, 1) := by decide +kernel
theorem d_Model_isEight_5 : decode (mC m_Model_isEight) 5 = .ok (.bipush 8, 2) := by decide +kernel
theorem d_Model_isEight_7 : decode (mC m_Model_isEight) 7 = .ok (.if_icmp .ne 7, 3) := by decide +kernel
theorem d_Model_isEight_10 : decode (mC m_Model_isEight) 10 = .ok (.iconst 1, 1) := by decide +kernel
theorem d_Model_isEight_11 : decode (mC m_Model_isEight) 11 = .ok (.goto 4, 3) := by decide +kernel
theorem d_Model_isEight_14 : decode (mC m_Model_isEight) 14 = .ok (.iconst 0, 1) := by decide +kernel
theorem d_Model_isEight_15 : decode (mC m_Model_isEight) 15 = .ok (.ireturn, 1) := by decide +kernel
def b_Model_isEight_10 (F : Nat) (w : zW) : Option (Int32 × zW) := some ((1 : Int32), w)
set_option maxRecDepth 100000 in
set_option maxHeartbeats 4000000 in
theorem b_Model_isEight_10_ok (G : zG) (F : Nat) (w : zW) (r : (Int32 × zW)) (h : b_Model_isEight_10 F w = some r) : zV G m_Model_isEight 10 [] [] w 0 0 (oI r.1) r.2 := by
  unfold b_Model_isEight_10 at h
  refine V_iconst (v := 1) d_Model_isEight_10 (by decide) ?_
  refine V_goto (tgt := 15) d_Model_isEight_11 (by decide) ?_
  obtain rfl := Option.some.inj h
  exact V_zret rfl (Or.inr rfl) (by decide) (by decide) d_Model_isEight_15
def b_Model_isEight_0 (F : Nat) (v0 : Int32) (w : zW) : Option (Int32 × zW) := if v0 = 0 then (b_Model_isEight_10 F w) else (if v0 = (8 : Int32) then (b_Model_isEight_10 F w) else (some ((0 : Int32), w)))
set_option maxRecDepth 100000 in
set_option maxHeartbeats 4000000 in
theorem b_Model_isEight_0_ok (G : zG) (F : Nat) (v0 : Int32) (w : zW) (r : (Int32 × zW)) (h : b_Model_isEight_0 F v0 w = some r) : zV G m_Model_isEight 0 [(0, .int v0)] [] w 0 0 (oI r.1) r.2 := by
  unfold b_Model_isEight_0 at h
  refine V_iload_n (i := 0) d_Model_isEight_0 rfl 0 rfl ?_
  refine V_if_eq (tgt := 10) d_Model_isEight_1 (by decide) (fun c1 => ?_) (fun c1 => ?_)
  · rw [if_pos c1] at h
    refine V_lv [] rfl ?_
    exact b_Model_isEight_10_ok G F w _ h
  · rw [if_neg c1] at h
    refine V_iload_n (i := 0) d_Model_isEight_4 rfl 0 rfl ?_
    refine V_bipush (v := 8) d_Model_isEight_5 (by decide) ?_
    refine V_icmp_ne (tgt := 14) d_Model_isEight_7 (by decide) (fun c7 => ?_) (fun c7 => ?_)
    · rw [if_neg c7] at h
      refine V_iconst (v := 0) d_Model_isEight_14 (by decide) ?_
      obtain rfl := Option.some.inj h
      exact V_zret rfl (Or.inl rfl) (by decide) (by decide) d_Model_isEight_15
    · rw [if_pos c7] at h
      refine V_lv [] rfl ?_
      exact b_Model_isEight_10_ok G F w _ h
def f_Model_isEight (F : Nat) (v0 : Int32) (w : zW) : Option (Int32 × zW) := b_Model_isEight_0 F v0 w
theorem c_Model_isEight (G : zG) (F : Nat) (v0 : Int32) (w : zW) (r : (Int32 × zW)) (h : f_Model_isEight F v0 w = some r) : zCT G m_Model_isEight [.int v0] w (oI r.1) r.2 := zCT.ofV (by decide +kernel) (Or.inl ⟨kc_Model_isEight, rfl⟩) (Nat.le_of_ble_eq_true rfl) (b_Model_isEight_0_ok G F v0 w r h)

/-! ZipArrayModel.find(II)I -/
def m_Model_find : zM := (⟨R_Model, "find", "(II)I"⟩, prog_11_method_51_code, 5, (some .int), [], { frames := 0, cells := 0, slots := 0, locals := 0 })
theorem kc_Model_find : Cond.code (mY m_Model_find) (mC m_Model_find) (mL m_Model_find) (mT m_Model_find) ∈ zTb := tb_at 1191 (by decide +kernel) rfl
theorem y_Model_find : (mY m_Model_find).cls ≠ "java/lang/invoke/MethodHandle" ∧ (mY m_Model_find).cls ≠ "java/lang/invoke/VarHandle" ∧ (parseMethodDescriptor (mY m_Model_find).desc).map (fun d => d.parameters.length) = some 2 := by decide +kernel
theorem sel_Model_find : Cond.selects R_Model (mY m_Model_find) (mY m_Model_find) ∈ zTb := sel_at (y := mY m_Model_find) (n := 33) 71 (by decide +kernel)
theorem d_Model_find_0 : decode (mC m_Model_find) 0 = .ok (.iconst (-1), 1) := by decide +kernel
theorem d_Model_find_1 : decode (mC m_Model_find) 1 = .ok (.istore_n 3, 1) := by decide +kernel
theorem d_Model_find_2 : decode (mC m_Model_find) 2 = .ok (.iconst 0, 1) := by decide +kernel
theorem d_Model_find_3 : decode (mC m_Model_find) 3 = .ok (.istore 4, 2) := by decide +kernel
theorem d_Model_find_5 : decode (mC m_Model_find) 5 = .ok (.iload 4, 2) := by decide +kernel
theorem d_Model_find_7 : decode (mC m_Model_find) 7 = .ok (.iload_n 2, 1) := by decide +kernel
theorem d_Model_find_8 : decode (mC m_Model_find) 8 = .ok (.if_icmp .ge 27, 3) := by decide +kernel
theorem d_Model_find_11 : decode (mC m_Model_find) 11 = .ok (.aload_n 0, 1) := by decide +kernel
theorem d_Model_find_12 : decode (mC m_Model_find) 12 = .ok (.getfield 34, 3) := by decide +kernel
theorem d_Model_find_15 : decode (mC m_Model_find) 15 = .ok (.iload 4, 2) := by decide +kernel
theorem d_Model_find_17 : decode (mC m_Model_find) 17 = .ok (.iaload, 1) := by decide +kernel
theorem d_Model_find_18 : decode (mC m_Model_find) 18 = .ok (.iload_n 1, 1) := by decide +kernel
theorem d_Model_find_19 : decode (mC m_Model_find) 19 = .ok (.if_icmp .ne 8, 3) := by decide +kernel
theorem d_Model_find_22 : decode (mC m_Model_find) 22 = .ok (.iload 4, 2) := by decide +kernel
theorem d_Model_find_24 : decode (mC m_Model_find) 24 = .ok (.goto 4, 3) := by decide +kernel
theorem d_Model_find_27 : decode (mC m_Model_find) 27 = .ok (.iload_n 3, 1) := by decide +kernel
theorem d_Model_find_28 : decode (mC m_Model_find) 28 = .ok (.istore_n 3, 1) := by decide +kernel
theorem d_Model_find_29 : decode (mC m_Model_find) 29 = .ok (.iinc 4 1, 3) := by decide +kernel
theorem d_Model_find_32 : decode (mC m_Model_find) 32 = .ok (.goto (-27), 3) := by decide +kernel
theorem d_Model_find_35 : decode (mC m_Model_find) 35 = .ok (.iload_n 3, 1) := by decide +kernel
theorem d_Model_find_36 : decode (mC m_Model_find) 36 = .ok (.ireturn, 1) := by decide +kernel
def b_Model_find_28 (F : Nat) (K5 : Nat → Int32 → Int32 → Int32 → Int32 → zW → Option (Int32 × zW)) (v0 : Nat) (v1 : Int32) (v2 : Int32) (v4 : Int32) (s0 : Int32) (w : zW) : Option (Int32 × zW) := K5 v0 v1 v2 s0 (v4 + (1 : Int32)) w
set_option maxRecDepth 100000 in
set_option maxHeartbeats 4000000 in
theorem b_Model_find_28_ok (G : zG) (F : Nat) (K5 : Nat → Int32 → Int32 → Int32 → Int32 → zW → Option (Int32 × zW)) (hK5 : ∀ (v0 : Nat) (v1 : Int32) (v2 : Int32) (v3 : Int32) (v4 : Int32) (w : zW) (r : (Int32 × zW)), K5 v0 v1 v2 v3 v4 w = some r → zV G m_Model_find 5 [(0, .ref (z0 G + v0)), (1, .int v1), (2, .int v2), (3, .int v3), (4, .int v4)] [] w 0 0 (oI r.1) r.2) (v0 : Nat) (v1 : Int32) (v2 : Int32) (v4 : Int32) (s0 : Int32) (w : zW) (r : (Int32 × zW)) (h : b_Model_find_28 F K5 v0 v1 v2 v4 s0 w = some r) : zV G m_Model_find 28 [(0, .ref (z0 G + v0)), (1, .int v1), (2, .int v2), (4, .int v4)] [.int s0] w 0 0 (oI r.1) r.2 := by
  unfold b_Model_find_28 at h
  refine V_istore_n (i := 3) d_Model_find_28 rfl (by decide) rfl ?_
  refine V_iinc (i := 4) (v := (v4 + (1 : Int32))) d_Model_find_29 4 rfl (congrArg (fun y => v4 + y) (by decide : Int32.ofInt (1) = (1 : Int32))) (by decide) rfl ?_
  refine V_goto (tgt := 5) d_Model_find_32 (by decide) ?_
  refine V_lv [2, 3, 4, 1, 0] rfl ?_
  exact hK5 v0 v1 v2 s0 (v4 + (1 : Int32)) w _ h
def b_Model_find_5 (F : Nat) (K5 : Nat → Int32 → Int32 → Int32 → Int32 → zW → Option (Int32 × zW)) (v0 : Nat) (v1 : Int32) (v2 : Int32) (v3 : Int32) (v4 : Int32) (w : zW) : Option (Int32 × zW) := if v2 ≤ v4 then (some (v3, w)) else ((getR w v0 9 20).bind fun x12 => (aget w x12 v4).bind fun x17 => if x17 = v1 then (b_Model_find_28 F K5 v0 v1 v2 v4 v4 w) else (b_Model_find_28 F K5 v0 v1 v2 v4 v3 w))
set_option maxRecDepth 100000 in
set_option maxHeartbeats 4000000 in
theorem b_Model_find_5_ok (G : zG) (F : Nat) (K5 : Nat → Int32 → Int32 → Int32 → Int32 → zW → Option (Int32 × zW)) (hK5 : ∀ (v0 : Nat) (v1 : Int32) (v2 : Int32) (v3 : Int32) (v4 : Int32) (w : zW) (r : (Int32 × zW)), K5 v0 v1 v2 v3 v4 w = some r → zV G m_Model_find 5 [(0, .ref (z0 G + v0)), (1, .int v1), (2, .int v2), (3, .int v3), (4, .int v4)] [] w 0 0 (oI r.1) r.2) (v0 : Nat) (v1 : Int32) (v2 : Int32) (v3 : Int32) (v4 : Int32) (w : zW) (r : (Int32 × zW)) (h : b_Model_find_5 F K5 v0 v1 v2 v3 v4 w = some r) : zV G m_Model_find 5 [(0, .ref (z0 G + v0)), (1, .int v1), (2, .int v2), (3, .int v3), (4, .int v4)] [] w 0 0 (oI r.1) r.2 := by
  unfold b_Model_find_5 at h
  refine V_iload (i := 4) d_Model_find_5 4 rfl ?_
  refine V_iload_n (i := 2) d_Model_find_7 rfl 2 rfl ?_
  refine V_icmp_ge (tgt := 35) d_Model_find_8 (by decide) (fun c8 => ?_) (fun c8 => ?_)
  · rw [if_pos c8] at h
    refine V_iload_n (i := 3) d_Model_find_35 rfl 3 rfl ?_
    obtain rfl := Option.some.inj h
    exact V_iret rfl (by decide) (by decide) d_Model_find_36
  · rw [if_neg c8] at h
    refine V_aload_n (i := 0) d_Model_find_11 rfl 0 rfl ?_
    obtain ⟨x12, e12, h⟩ := ob h
    refine V_getR (ci := 9) (k := 20) d_Model_find_12 e12 rfl (by decide) in_Model k902 ?_
    refine V_iload (i := 4) d_Model_find_15 4 rfl ?_
    obtain ⟨x17, e17, h⟩ := ob h
    refine V_aget d_Model_find_17 e17 ?_
    refine V_iload_n (i := 1) d_Model_find_18 rfl 1 rfl ?_
    refine V_icmp_ne (tgt := 27) d_Model_find_19 (by decide) (fun c19 => ?_) (fun c19 => ?_)
    · rw [if_neg c19] at h
      refine V_iload_n (i := 3) d_Model_find_27 rfl 3 rfl ?_
      refine V_lv [0, 1, 2, 4] rfl ?_
      exact b_Model_find_28_ok G F K5 hK5 v0 v1 v2 v4 v3 w _ h
    · rw [if_pos c19] at h
      refine V_iload (i := 4) d_Model_find_22 4 rfl ?_
      refine V_goto (tgt := 28) d_Model_find_24 (by decide) ?_
      refine V_lv [0, 1, 2, 4] rfl ?_
      exact b_Model_find_28_ok G F K5 hK5 v0 v1 v2 v4 v4 w _ h
def l_Model_find_5 (F : Nat) : Nat → Nat → Int32 → Int32 → Int32 → Int32 → zW → Option (Int32 × zW)
  | 0 => fun _ _ _ _ _ _ => none
  | n + 1 => b_Model_find_5 F (l_Model_find_5 F n)
theorem l_Model_find_5_ok (G : zG) (F : Nat) (n : Nat) :  ∀ (v0 : Nat) (v1 : Int32) (v2 : Int32) (v3 : Int32) (v4 : Int32) (w : zW) (r : (Int32 × zW)), l_Model_find_5 F n v0 v1 v2 v3 v4 w = some r → zV G m_Model_find 5 [(0, .ref (z0 G + v0)), (1, .int v1), (2, .int v2), (3, .int v3), (4, .int v4)] [] w 0 0 (oI r.1) r.2 := by
  induction n with
  | zero => intro v0 v1 v2 v3 v4 w r h; exact nomatch (show (none : Option (Int32 × zW)) = some r from h)
  | succ n ih => intro v0 v1 v2 v3 v4 w r h; exact b_Model_find_5_ok G F (l_Model_find_5 F n) ih v0 v1 v2 v3 v4 w r h
def b_Model_find_0 (F : Nat) (v0 : Nat) (v1 : Int32) (v2 : Int32) (w : zW) : Option (Int32 × zW) := l_Model_find_5 F F v0 v1 v2 (-1 : Int32) (0 : Int32) w
set_option maxRecDepth 100000 in
set_option maxHeartbeats 4000000 in
theorem b_Model_find_0_ok (G : zG) (F : Nat) (v0 : Nat) (v1 : Int32) (v2 : Int32) (w : zW) (r : (Int32 × zW)) (h : b_Model_find_0 F v0 v1 v2 w = some r) : zV G m_Model_find 0 [(0, .ref (z0 G + v0)), (1, .int v1), (2, .int v2)] [] w 0 0 (oI r.1) r.2 := by
  unfold b_Model_find_0 at h
  refine V_iconst (v := -1) d_Model_find_0 (by decide) ?_
  refine V_istore_n (i := 3) d_Model_find_1 rfl (by decide) rfl ?_
  refine V_iconst (v := 0) d_Model_find_2 (by decide) ?_
  refine V_istore (i := 4) d_Model_find_3 (by decide) rfl ?_
  refine V_lv [2, 3, 4, 1, 0] rfl ?_
  exact l_Model_find_5_ok G F F v0 v1 v2 (-1 : Int32) (0 : Int32) w _ h
def f_Model_find (F : Nat) (v0 : Nat) (v1 : Int32) (v2 : Int32) (w : zW) : Option (Int32 × zW) := b_Model_find_0 F v0 v1 v2 w
theorem c_Model_find (G : zG) (F : Nat) (v0 : Nat) (v1 : Int32) (v2 : Int32) (w : zW) (r : (Int32 × zW)) (h : f_Model_find F v0 v1 v2 w = some r) : zCT G m_Model_find [.ref (z0 G + v0), .int v1, .int v2] w (oI r.1) r.2 := zCT.ofV (by decide +kernel) (Or.inl ⟨kc_Model_find, rfl⟩) (Nat.le_of_ble_eq_true rfl) (b_Model_find_0_ok G F v0 v1 v2 w r h)

/-! ZipArrayModel.readPart(II)Z -/
def m_Model_readPart : zM := (⟨R_Model, "readPart", "(II)Z"⟩, prog_11_method_49_code, 19, (some .boolean), [], { frames := 2, cells := 0, slots := 0, locals := 48 })
theorem k1167 : Cond.constantLong R_Model 230 33639248 ∈ zTb := tb_at 1167 (by decide +kernel) rfl
theorem k1168 : Cond.methodLink R_Model 232 (mY m_Model_areRecords) ∈ zTb := tb_at 1168 (by decide +kernel) rfl
theorem k1170 : Cond.instanceMethod (mY m_Model_areRecords) ∈ zTb := tb_at 1170 (by decide +kernel) rfl
theorem k1172 : Cond.methodLink R_Model 235 (mY m_Model_nameAt) ∈ zTb := tb_at 1172 (by decide +kernel) rfl
theorem k1174 : Cond.instanceMethod (mY m_Model_nameAt) ∈ zTb := tb_at 1174 (by decide +kernel) rfl
theorem k1176 : Cond.methodLink R_Model 238 (mY m_Model_recordIn) ∈ zTb := tb_at 1176 (by decide +kernel) rfl
theorem k1178 : Cond.instanceMethod (mY m_Model_recordIn) ∈ zTb := tb_at 1178 (by decide +kernel) rfl
theorem k1180 : Cond.methodLink R_Model 242 (mY m_Model_told) ∈ zTb := tb_at 1180 (by decide +kernel) rfl
theorem k1182 : Cond.instanceMethod (mY m_Model_told) ∈ zTb := tb_at 1182 (by decide +kernel) rfl
theorem k1185 : Cond.methodLink R_Model 246 (mY m_Model_isEight) ∈ zTb := tb_at 1185 (by decide +kernel) rfl
theorem k1186 : Cond.static (mY m_Model_isEight) ∈ zTb := tb_at 1186 (by decide +kernel) rfl
theorem k1188 : Cond.methodLink R_Model 249 (mY m_Model_find) ∈ zTb := tb_at 1188 (by decide +kernel) rfl
theorem k1190 : Cond.instanceMethod (mY m_Model_find) ∈ zTb := tb_at 1190 (by decide +kernel) rfl
theorem kc_Model_readPart : Cond.code (mY m_Model_readPart) (mC m_Model_readPart) (mL m_Model_readPart) (mT m_Model_readPart) ∈ zTb := tb_at 1166 (by decide +kernel) rfl
theorem y_Model_readPart : (mY m_Model_readPart).cls ≠ "java/lang/invoke/MethodHandle" ∧ (mY m_Model_readPart).cls ≠ "java/lang/invoke/VarHandle" ∧ (parseMethodDescriptor (mY m_Model_readPart).desc).map (fun d => d.parameters.length) = some 2 := by decide +kernel
theorem sel_Model_readPart : Cond.selects R_Model (mY m_Model_readPart) (mY m_Model_readPart) ∈ zTb := sel_at (y := mY m_Model_readPart) (n := 33) 66 (by decide +kernel)
theorem d_Model_readPart_0 : decode (mC m_Model_readPart) 0 = .ok (.iload_n 2, 1) := by decide +kernel
theorem d_Model_readPart_1 : decode (mC m_Model_readPart) 1 = .ok (.bipush 46, 2) := by decide +kernel
theorem d_Model_readPart_3 : decode (mC m_Model_readPart) 3 = .ok (.iadd, 1) := by decide +kernel
theorem d_Model_readPart_4 : decode (mC m_Model_readPart) 4 = .ok (.aload_n 0, 1) := by decide +kernel
theorem d_Model_readPart_5 : decode (mC m_Model_readPart) 5 = .ok (.getfield 202, 3) := by decide +kernel
theorem d_Model_readPart_8 : decode (mC m_Model_readPart) 8 = .ok (.if_icmp .gt 16, 3) := by decide +kernel
theorem d_Model_readPart_11 : decode (mC m_Model_readPart) 11 = .ok (.aload_n 0, 1) := by decide +kernel
theorem d_Model_readPart_12 : decode (mC m_Model_readPart) 12 = .ok (.iload_n 2, 1) := by decide +kernel
theorem d_Model_readPart_13 : decode (mC m_Model_readPart) 13 = .ok (.iconst 4, 1) := by decide +kernel
theorem d_Model_readPart_14 : decode (mC m_Model_readPart) 14 = .ok (.invokevirtual 188, 3) := by decide +kernel
theorem d_Model_readPart_17 : decode (mC m_Model_readPart) 17 = .ok (.ldc2_w 230, 3) := by decide +kernel
theorem d_Model_readPart_20 : decode (mC m_Model_readPart) 20 = .ok (.lcmp, 1) := by decide +kernel
theorem d_Model_readPart_21 : decode (mC m_Model_readPart) 21 = .ok (.ifCond .eq 5, 3) := by decide +kernel
theorem d_Model_readPart_24 : decode (mC m_Model_readPart) 24 = .ok (.iconst 0, 1) := by decide +kernel
theorem d_Model_readPart_25 : decode (mC m_Model_readPart) 25 = .ok (.ireturn, 1) := by decide +kernel
theorem d_Model_readPart_26 : decode (mC m_Model_readPart) 26 = .ok (.iload_n 2, 1) := by decide +kernel
theorem d_Model_readPart_27 : decode (mC m_Model_readPart) 27 = .ok (.bipush 46, 2) := by decide +kernel
theorem d_Model_readPart_29 : decode (mC m_Model_readPart) 29 = .ok (.iadd, 1) := by decide +kernel
theorem d_Model_readPart_30 : decode (mC m_Model_readPart) 30 = .ok (.aload_n 0, 1) := by decide +kernel
theorem d_Model_readPart_31 : decode (mC m_Model_readPart) 31 = .ok (.iload_n 2, 1) := by decide +kernel
theorem d_Model_readPart_32 : decode (mC m_Model_readPart) 32 = .ok (.bipush 28, 2) := by decide +kernel
theorem d_Model_readPart_34 : decode (mC m_Model_readPart) 34 = .ok (.iadd, 1) := by decide +kernel
theorem d_Model_readPart_35 : decode (mC m_Model_readPart) 35 = .ok (.invokevirtual 199, 3) := by decide +kernel
theorem d_Model_readPart_38 : decode (mC m_Model_readPart) 38 = .ok (.iadd, 1) := by decide +kernel
theorem d_Model_readPart_39 : decode (mC m_Model_readPart) 39 = .ok (.istore_n 3, 1) := by decide +kernel
theorem d_Model_readPart_40 : decode (mC m_Model_readPart) 40 = .ok (.iload_n 3, 1) := by decide +kernel
theorem d_Model_readPart_41 : decode (mC m_Model_readPart) 41 = .ok (.aload_n 0, 1) := by decide +kernel
theorem d_Model_readPart_42 : decode (mC m_Model_readPart) 42 = .ok (.iload_n 2, 1) := by decide +kernel
theorem d_Model_readPart_43 : decode (mC m_Model_readPart) 43 = .ok (.bipush 30, 2) := by decide +kernel
theorem d_Model_readPart_45 : decode (mC m_Model_readPart) 45 = .ok (.iadd, 1) := by decide +kernel
theorem d_Model_readPart_46 : decode (mC m_Model_readPart) 46 = .ok (.invokevirtual 199, 3) := by decide +kernel
theorem d_Model_readPart_49 : decode (mC m_Model_readPart) 49 = .ok (.iadd, 1) := by decide +kernel
theorem d_Model_readPart_50 : decode (mC m_Model_readPart) 50 = .ok (.istore 4, 2) := by decide +kernel
theorem d_Model_readPart_52 : decode (mC m_Model_readPart) 52 = .ok (.iload 4, 2) := by decide +kernel
theorem d_Model_readPart_54 : decode (mC m_Model_readPart) 54 = .ok (.aload_n 0, 1) := by decide +kernel
theorem d_Model_readPart_55 : decode (mC m_Model_readPart) 55 = .ok (.iload_n 2, 1) := by decide +kernel
theorem d_Model_readPart_56 : decode (mC m_Model_readPart) 56 = .ok (.bipush 32, 2) := by decide +kernel
theorem d_Model_readPart_58 : decode (mC m_Model_readPart) 58 = .ok (.iadd, 1) := by decide +kernel
theorem d_Model_readPart_59 : decode (mC m_Model_readPart) 59 = .ok (.invokevirtual 199, 3) := by decide +kernel
theorem d_Model_readPart_62 : decode (mC m_Model_readPart) 62 = .ok (.iadd, 1) := by decide +kernel
theorem d_Model_readPart_63 : decode (mC m_Model_readPart) 63 = .ok (.istore 5, 2) := by decide +kernel
theorem d_Model_readPart_65 : decode (mC m_Model_readPart) 65 = .ok (.iload 5, 2) := by decide +kernel
theorem d_Model_readPart_67 : decode (mC m_Model_readPart) 67 = .ok (.aload_n 0, 1) := by decide +kernel
theorem d_Model_readPart_68 : decode (mC m_Model_readPart) 68 = .ok (.getfield 202, 3) := by decide +kernel
theorem d_Model_readPart_71 : decode (mC m_Model_readPart) 71 = .ok (.if_icmp .gt 13, 3) := by decide +kernel
theorem d_Model_readPart_74 : decode (mC m_Model_readPart) 74 = .ok (.aload_n 0, 1) := by decide +kernel
theorem d_Model_readPart_75 : decode (mC m_Model_readPart) 75 = .ok (.iload_n 3, 1) := by decide +kernel
theorem d_Model_readPart_76 : decode (mC m_Model_readPart) 76 = .ok (.iload 4, 2) := by decide +kernel
theorem d_Model_readPart_78 : decode (mC m_Model_readPart) 78 = .ok (.invokevirtual 232, 3) := by decide +kernel
theorem d_Model_readPart_81 : decode (mC m_Model_readPart) 81 = .ok (.ifCond .ne 5, 3) := by decide +kernel
theorem d_Model_readPart_84 : decode (mC m_Model_readPart) 84 = .ok (.iconst 0, 1) := by decide +kernel
theorem d_Model_readPart_85 : decode (mC m_Model_readPart) 85 = .ok (.ireturn, 1) := by decide +kernel
theorem d_Model_readPart_86 : decode (mC m_Model_readPart) 86 = .ok (.aload_n 0, 1) := by decide +kernel
theorem d_Model_readPart_87 : decode (mC m_Model_readPart) 87 = .ok (.getfield 55, 3) := by decide +kernel
theorem d_Model_readPart_90 : decode (mC m_Model_readPart) 90 = .ok (.iload_n 1, 1) := by decide +kernel
theorem d_Model_readPart_91 : decode (mC m_Model_readPart) 91 = .ok (.iload_n 2, 1) := by decide +kernel
theorem d_Model_readPart_92 : decode (mC m_Model_readPart) 92 = .ok (.iastore, 1) := by decide +kernel
theorem d_Model_readPart_93 : decode (mC m_Model_readPart) 93 = .ok (.aload_n 0, 1) := by decide +kernel
theorem d_Model_readPart_94 : decode (mC m_Model_readPart) 94 = .ok (.getfield 58, 3) := by decide +kernel
theorem d_Model_readPart_97 : decode (mC m_Model_readPart) 97 = .ok (.iload_n 1, 1) := by decide +kernel
theorem d_Model_readPart_98 : decode (mC m_Model_readPart) 98 = .ok (.iload 5, 2) := by decide +kernel
theorem d_Model_readPart_100 : decode (mC m_Model_readPart) 100 = .ok (.iastore, 1) := by decide +kernel
theorem d_Model_readPart_101 : decode (mC m_Model_readPart) 101 = .ok (.aload_n 0, 1) := by decide +kernel
theorem d_Model_readPart_102 : decode (mC m_Model_readPart) 102 = .ok (.getfield 34, 3) := by decide +kernel
theorem d_Model_readPart_105 : decode (mC m_Model_readPart) 105 = .ok (.iload_n 1, 1) := by decide +kernel
theorem d_Model_readPart_106 : decode (mC m_Model_readPart) 106 = .ok (.aload_n 0, 1) := by decide +kernel
theorem d_Model_readPart_107 : decode (mC m_Model_readPart) 107 = .ok (.iload_n 2, 1) := by decide +kernel
theorem d_Model_readPart_108 : decode (mC m_Model_readPart) 108 = .ok (.bipush 46, 2) := by decide +kernel
theorem d_Model_readPart_110 : decode (mC m_Model_readPart) 110 = .ok (.iadd, 1) := by decide +kernel
theorem d_Model_readPart_111 : decode (mC m_Model_readPart) 111 = .ok (.aload_n 0, 1) := by decide +kernel
theorem d_Model_readPart_112 : decode (mC m_Model_readPart) 112 = .ok (.iload_n 2, 1) := by decide +kernel
theorem d_Model_readPart_113 : decode (mC m_Model_readPart) 113 = .ok (.bipush 28, 2) := by decide +kernel
theorem d_Model_readPart_115 : decode (mC m_Model_readPart) 115 = .ok (.iadd, 1) := by decide +kernel
theorem d_Model_readPart_116 : decode (mC m_Model_readPart) 116 = .ok (.invokevirtual 199, 3) := by decide +kernel
theorem d_Model_readPart_119 : decode (mC m_Model_readPart) 119 = .ok (.invokevirtual 235, 3) := by decide +kernel
theorem d_Model_readPart_122 : decode (mC m_Model_readPart) 122 = .ok (.iastore, 1) := by decide +kernel
theorem d_Model_readPart_123 : decode (mC m_Model_readPart) 123 = .ok (.aload_n 0, 1) := by decide +kernel
theorem d_Model_readPart_124 : decode (mC m_Model_readPart) 124 = .ok (.getfield 37, 3) := by decide +kernel
theorem d_Model_readPart_127 : decode (mC m_Model_readPart) 127 = .ok (.iload_n 1, 1) := by decide +kernel
theorem d_Model_readPart_128 : decode (mC m_Model_readPart) 128 = .ok (.aload_n 0, 1) := by decide +kernel
theorem d_Model_readPart_129 : decode (mC m_Model_readPart) 129 = .ok (.iload_n 2, 1) := by decide +kernel
theorem d_Model_readPart_130 : decode (mC m_Model_readPart) 130 = .ok (.bipush 8, 2) := by decide +kernel
theorem d_Model_readPart_132 : decode (mC m_Model_readPart) 132 = .ok (.iadd, 1) := by decide +kernel
theorem d_Model_readPart_133 : decode (mC m_Model_readPart) 133 = .ok (.invokevirtual 199, 3) := by decide +kernel
theorem d_Model_readPart_136 : decode (mC m_Model_readPart) 136 = .ok (.iastore, 1) := by decide +kernel
theorem d_Model_readPart_137 : decode (mC m_Model_readPart) 137 = .ok (.aload_n 0, 1) := by decide +kernel
theorem d_Model_readPart_138 : decode (mC m_Model_readPart) 138 = .ok (.getfield 40, 3) := by decide +kernel
theorem d_Model_readPart_141 : decode (mC m_Model_readPart) 141 = .ok (.iload_n 1, 1) := by decide +kernel
theorem d_Model_readPart_142 : decode (mC m_Model_readPart) 142 = .ok (.aload_n 0, 1) := by decide +kernel
theorem d_Model_readPart_143 : decode (mC m_Model_readPart) 143 = .ok (.iload_n 2, 1) := by decide +kernel
theorem d_Model_readPart_144 : decode (mC m_Model_readPart) 144 = .ok (.bipush 10, 2) := by decide +kernel
theorem d_Model_readPart_146 : decode (mC m_Model_readPart) 146 = .ok (.iadd, 1) := by decide +kernel
theorem d_Model_readPart_147 : decode (mC m_Model_readPart) 147 = .ok (.invokevirtual 199, 3) := by decide +kernel
theorem d_Model_readPart_150 : decode (mC m_Model_readPart) 150 = .ok (.iastore, 1) := by decide +kernel
theorem d_Model_readPart_151 : decode (mC m_Model_readPart) 151 = .ok (.aload_n 0, 1) := by decide +kernel
theorem d_Model_readPart_152 : decode (mC m_Model_readPart) 152 = .ok (.getfield 43, 3) := by decide +kernel
theorem d_Model_readPart_155 : decode (mC m_Model_readPart) 155 = .ok (.iload_n 1, 1) := by decide +kernel
theorem d_Model_readPart_156 : decode (mC m_Model_readPart) 156 = .ok (.aload_n 0, 1) := by decide +kernel
theorem d_Model_readPart_157 : decode (mC m_Model_readPart) 157 = .ok (.iload_n 2, 1) := by decide +kernel
theorem d_Model_readPart_158 : decode (mC m_Model_readPart) 158 = .ok (.bipush 16, 2) := by decide +kernel
theorem d_Model_readPart_160 : decode (mC m_Model_readPart) 160 = .ok (.iadd, 1) := by decide +kernel
theorem d_Model_readPart_161 : decode (mC m_Model_readPart) 161 = .ok (.iconst 4, 1) := by decide +kernel
theorem d_Model_readPart_162 : decode (mC m_Model_readPart) 162 = .ok (.invokevirtual 188, 3) := by decide +kernel
theorem d_Model_readPart_165 : decode (mC m_Model_readPart) 165 = .ok (.l2i, 1) := by decide +kernel
theorem d_Model_readPart_166 : decode (mC m_Model_readPart) 166 = .ok (.iastore, 1) := by decide +kernel
theorem d_Model_readPart_167 : decode (mC m_Model_readPart) 167 = .ok (.aload_n 0, 1) := by decide +kernel
theorem d_Model_readPart_168 : decode (mC m_Model_readPart) 168 = .ok (.iload_n 2, 1) := by decide +kernel
theorem d_Model_readPart_169 : decode (mC m_Model_readPart) 169 = .ok (.bipush 24, 2) := by decide +kernel
theorem d_Model_readPart_171 : decode (mC m_Model_readPart) 171 = .ok (.iadd, 1) := by decide +kernel
theorem d_Model_readPart_172 : decode (mC m_Model_readPart) 172 = .ok (.invokevirtual 214, 3) := by decide +kernel
theorem d_Model_readPart_175 : decode (mC m_Model_readPart) 175 = .ok (.istore 6, 2) := by decide +kernel
theorem d_Model_readPart_177 : decode (mC m_Model_readPart) 177 = .ok (.aload_n 0, 1) := by decide +kernel
theorem d_Model_readPart_178 : decode (mC m_Model_readPart) 178 = .ok (.iload_n 2, 1) := by decide +kernel
theorem d_Model_readPart_179 : decode (mC m_Model_readPart) 179 = .ok (.bipush 20, 2) := by decide +kernel
theorem d_Model_readPart_181 : decode (mC m_Model_readPart) 181 = .ok (.iadd, 1) := by decide +kernel
theorem d_Model_readPart_182 : decode (mC m_Model_readPart) 182 = .ok (.invokevirtual 214, 3) := by decide +kernel
theorem d_Model_readPart_185 : decode (mC m_Model_readPart) 185 = .ok (.istore 7, 2) := by decide +kernel
theorem d_Model_readPart_187 : decode (mC m_Model_readPart) 187 = .ok (.aload_n 0, 1) := by decide +kernel
theorem d_Model_readPart_188 : decode (mC m_Model_readPart) 188 = .ok (.iload_n 2, 1) := by decide +kernel
theorem d_Model_readPart_189 : decode (mC m_Model_readPart) 189 = .ok (.bipush 42, 2) := by decide +kernel
theorem d_Model_readPart_191 : decode (mC m_Model_readPart) 191 = .ok (.iadd, 1) := by decide +kernel
theorem d_Model_readPart_192 : decode (mC m_Model_readPart) 192 = .ok (.invokevirtual 214, 3) := by decide +kernel
theorem d_Model_readPart_195 : decode (mC m_Model_readPart) 195 = .ok (.istore 8, 2) := by decide +kernel
theorem d_Model_readPart_197 : decode (mC m_Model_readPart) 197 = .ok (.iload 6, 2) := by decide +kernel
theorem d_Model_readPart_199 : decode (mC m_Model_readPart) 199 = .ok (.ifCond .eq 8, 3) := by decide +kernel
theorem d_Model_readPart_202 : decode (mC m_Model_readPart) 202 = .ok (.bipush 8, 2) := by decide +kernel
theorem d_Model_readPart_204 : decode (mC m_Model_readPart) 204 = .ok (.goto 4, 3) := by decide +kernel
theorem d_Model_readPart_207 : decode (mC m_Model_readPart) 207 = .ok (.iconst 0, 1) := by decide +kernel
theorem d_Model_readPart_208 : decode (mC m_Model_readPart) 208 = .ok (.istore 9, 2) := by decide +kernel
theorem d_Model_readPart_210 : decode (mC m_Model_readPart) 210 = .ok (.iload 7, 2) := by decide +kernel
theorem d_Model_readPart_212 : decode (mC m_Model_readPart) 212 = .ok (.ifCond .eq 11, 3) := by decide +kernel
theorem d_Model_readPart_215 : decode (mC m_Model_readPart) 215 = .ok (.iload 9, 2) := by decide +kernel
theorem d_Model_readPart_217 : decode (mC m_Model_readPart) 217 = .ok (.bipush 8, 2) := by decide +kernel
theorem d_Model_readPart_219 : decode (mC m_Model_readPart) 219 = .ok (.iadd, 1) := by decide +kernel
theorem d_Model_readPart_220 : decode (mC m_Model_readPart) 220 = .ok (.goto 5, 3) := by decide +kernel
theorem d_Model_readPart_223 : decode (mC m_Model_readPart) 223 = .ok (.iload 9, 2) := by decide +kernel
theorem d_Model_readPart_225 : decode (mC m_Model_readPart) 225 = .ok (.istore 10, 2) := by decide +kernel
theorem d_Model_readPart_227 : decode (mC m_Model_readPart) 227 = .ok (.aload_n 0, 1) := by decide +kernel
theorem d_Model_readPart_228 : decode (mC m_Model_readPart) 228 = .ok (.iload_n 3, 1) := by decide +kernel
theorem d_Model_readPart_229 : decode (mC m_Model_readPart) 229 = .ok (.iload 4, 2) := by decide +kernel
theorem d_Model_readPart_231 : decode (mC m_Model_readPart) 231 = .ok (.iload 8, 2) := by decide +kernel
theorem d_Model_readPart_233 : decode (mC m_Model_readPart) 233 = .ok (.ifCond .eq 11, 3) := by decide +kernel
theorem d_Model_readPart_236 : decode (mC m_Model_readPart) 236 = .ok (.iload 10, 2) := by decide +kernel
theorem d_Model_readPart_238 : decode (mC m_Model_readPart) 238 = .ok (.bipush 8, 2) := by decide +kernel
theorem d_Model_readPart_240 : decode (mC m_Model_readPart) 240 = .ok (.iadd, 1) := by decide +kernel
theorem d_Model_readPart_241 : decode (mC m_Model_readPart) 241 = .ok (.goto 5, 3) := by decide +kernel
theorem d_Model_readPart_244 : decode (mC m_Model_readPart) 244 = .ok (.iload 10, 2) := by decide +kernel
theorem d_Model_readPart_246 : decode (mC m_Model_readPart) 246 = .ok (.invokevirtual 238, 3) := by decide +kernel
theorem d_Model_readPart_249 : decode (mC m_Model_readPart) 249 = .ok (.istore 11, 2) := by decide +kernel
theorem d_Model_readPart_251 : decode (mC m_Model_readPart) 251 = .ok (.aload_n 0, 1) := by decide +kernel
theorem d_Model_readPart_252 : decode (mC m_Model_readPart) 252 = .ok (.iload_n 2, 1) := by decide +kernel
theorem d_Model_readPart_253 : decode (mC m_Model_readPart) 253 = .ok (.bipush 24, 2) := by decide +kernel
theorem d_Model_readPart_255 : decode (mC m_Model_readPart) 255 = .ok (.iadd, 1) := by decide +kernel
theorem d_Model_readPart_256 : decode (mC m_Model_readPart) 256 = .ok (.iload 6, 2) := by decide +kernel
theorem d_Model_readPart_258 : decode (mC m_Model_readPart) 258 = .ok (.iload 11, 2) := by decide +kernel
theorem d_Model_readPart_260 : decode (mC m_Model_readPart) 260 = .ok (.invokevirtual 242, 3) := by decide +kernel
theorem d_Model_readPart_263 : decode (mC m_Model_readPart) 263 = .ok (.lstore 12, 2) := by decide +kernel
theorem d_Model_readPart_265 : decode (mC m_Model_readPart) 265 = .ok (.aload_n 0, 1) := by decide +kernel
theorem d_Model_readPart_266 : decode (mC m_Model_readPart) 266 = .ok (.iload_n 2, 1) := by decide +kernel
theorem d_Model_readPart_267 : decode (mC m_Model_readPart) 267 = .ok (.bipush 20, 2) := by decide +kernel
theorem d_Model_readPart_269 : decode (mC m_Model_readPart) 269 = .ok (.iadd, 1) := by decide +kernel
theorem d_Model_readPart_270 : decode (mC m_Model_readPart) 270 = .ok (.iload 7, 2) := by decide +kernel
theorem d_Model_readPart_272 : decode (mC m_Model_readPart) 272 = .ok (.iload 11, 2) := by decide +kernel
theorem d_Model_readPart_274 : decode (mC m_Model_readPart) 274 = .ok (.ifCond .ge 7, 3) := by decide +kernel
theorem d_Model_readPart_277 : decode (mC m_Model_readPart) 277 = .ok (.iconst (-1), 1) := by decide +kernel
theorem d_Model_readPart_278 : decode (mC m_Model_readPart) 278 = .ok (.goto 8, 3) := by decide +kernel
theorem d_Model_readPart_281 : decode (mC m_Model_readPart) 281 = .ok (.iload 11, 2) := by decide +kernel
theorem d_Model_readPart_283 : decode (mC m_Model_readPart) 283 = .ok (.iload 9, 2) := by decide +kernel
theorem d_Model_readPart_285 : decode (mC m_Model_readPart) 285 = .ok (.iadd, 1) := by decide +kernel
theorem d_Model_readPart_286 : decode (mC m_Model_readPart) 286 = .ok (.invokevirtual 242, 3) := by decide +kernel
theorem d_Model_readPart_289 : decode (mC m_Model_readPart) 289 = .ok (.lstore 14, 2) := by decide +kernel
theorem d_Model_readPart_291 : decode (mC m_Model_readPart) 291 = .ok (.aload_n 0, 1) := by decide +kernel
theorem d_Model_readPart_292 : decode (mC m_Model_readPart) 292 = .ok (.iload_n 2, 1) := by decide +kernel
theorem d_Model_readPart_293 : decode (mC m_Model_readPart) 293 = .ok (.bipush 42, 2) := by decide +kernel
theorem d_Model_readPart_295 : decode (mC m_Model_readPart) 295 = .ok (.iadd, 1) := by decide +kernel
theorem d_Model_readPart_296 : decode (mC m_Model_readPart) 296 = .ok (.iload 8, 2) := by decide +kernel
theorem d_Model_readPart_298 : decode (mC m_Model_readPart) 298 = .ok (.iload 11, 2) := by decide +kernel
theorem d_Model_readPart_300 : decode (mC m_Model_readPart) 300 = .ok (.ifCond .ge 7, 3) := by decide +kernel
theorem d_Model_readPart_303 : decode (mC m_Model_readPart) 303 = .ok (.iconst (-1), 1) := by decide +kernel
theorem d_Model_readPart_304 : decode (mC m_Model_readPart) 304 = .ok (.goto 8, 3) := by decide +kernel
theorem d_Model_readPart_307 : decode (mC m_Model_readPart) 307 = .ok (.iload 11, 2) := by decide +kernel
theorem d_Model_readPart_309 : decode (mC m_Model_readPart) 309 = .ok (.iload 10, 2) := by decide +kernel
theorem d_Model_readPart_311 : decode (mC m_Model_readPart) 311 = .ok (.iadd, 1) := by decide +kernel
theorem d_Model_readPart_312 : decode (mC m_Model_readPart) 312 = .ok (.invokevirtual 242, 3) := by decide +kernel
theorem d_Model_readPart_315 : decode (mC m_Model_readPart) 315 = .ok (.lstore 16, 2) := by decide +kernel
theorem d_Model_readPart_317 : decode (mC m_Model_readPart) 317 = .ok (.lload 12, 2) := by decide +kernel
theorem d_Model_readPart_319 : decode (mC m_Model_readPart) 319 = .ok (.lconst 0, 1) := by decide +kernel
theorem d_Model_readPart_320 : decode (mC m_Model_readPart) 320 = .ok (.ldc2_w 93, 3) := by decide +kernel
theorem d_Model_readPart_323 : decode (mC m_Model_readPart) 323 = .ok (.invokestatic 87, 3) := by decide +kernel
theorem d_Model_readPart_326 : decode (mC m_Model_readPart) 326 = .ok (.ifCond .eq 35, 3) := by decide +kernel
theorem d_Model_readPart_329 : decode (mC m_Model_readPart) 329 = .ok (.lload 14, 2) := by decide +kernel
theorem d_Model_readPart_331 : decode (mC m_Model_readPart) 331 = .ok (.lconst 0, 1) := by decide +kernel
theorem d_Model_readPart_332 : decode (mC m_Model_readPart) 332 = .ok (.aload_n 0, 1) := by decide +kernel
theorem d_Model_readPart_333 : decode (mC m_Model_readPart) 333 = .ok (.getfield 208, 3) := by decide +kernel
theorem d_Model_readPart_336 : decode (mC m_Model_readPart) 336 = .ok (.i2l, 1) := by decide +kernel
theorem d_Model_readPart_337 : decode (mC m_Model_readPart) 337 = .ok (.invokestatic 87, 3) := by decide +kernel
theorem d_Model_readPart_340 : decode (mC m_Model_readPart) 340 = .ok (.ifCond .eq 21, 3) := by decide +kernel
theorem d_Model_readPart_343 : decode (mC m_Model_readPart) 343 = .ok (.lload 16, 2) := by decide +kernel
theorem d_Model_readPart_345 : decode (mC m_Model_readPart) 345 = .ok (.lconst 0, 1) := by decide +kernel
theorem d_Model_readPart_346 : decode (mC m_Model_readPart) 346 = .ok (.aload_n 0, 1) := by decide +kernel
theorem d_Model_readPart_347 : decode (mC m_Model_readPart) 347 = .ok (.getfield 208, 3) := by decide +kernel
theorem d_Model_readPart_350 : decode (mC m_Model_readPart) 350 = .ok (.i2l, 1) := by decide +kernel
theorem d_Model_readPart_351 : decode (mC m_Model_readPart) 351 = .ok (.invokestatic 87, 3) := by decide +kernel
theorem d_Model_readPart_354 : decode (mC m_Model_readPart) 354 = .ok (.ifCond .eq 7, 3) := by decide +kernel
theorem d_Model_readPart_357 : decode (mC m_Model_readPart) 357 = .ok (.iconst 1, 1) := by decide +kernel
theorem d_Model_readPart_358 : decode (mC m_Model_readPart) 358 = .ok (.goto 4, 3) := by decide +kernel
theorem d_Model_readPart_361 : decode (mC m_Model_readPart) 361 = .ok (.iconst 0, 1) := by decide +kernel
theorem d_Model_readPart_362 : decode (mC m_Model_readPart) 362 = .ok (.istore 18, 2) := by decide +kernel
theorem d_Model_readPart_364 : decode (mC m_Model_readPart) 364 = .ok (.aload_n 0, 1) := by decide +kernel
theorem d_Model_readPart_365 : decode (mC m_Model_readPart) 365 = .ok (.getfield 49, 3) := by decide +kernel
theorem d_Model_readPart_368 : decode (mC m_Model_readPart) 368 = .ok (.iload_n 1, 1) := by decide +kernel
theorem d_Model_readPart_369 : decode (mC m_Model_readPart) 369 = .ok (.iload 18, 2) := by decide +kernel
theorem d_Model_readPart_371 : decode (mC m_Model_readPart) 371 = .ok (.ifCond .eq 9, 3) := by decide +kernel
theorem d_Model_readPart_374 : decode (mC m_Model_readPart) 374 = .ok (.lload 12, 2) := by decide +kernel
theorem d_Model_readPart_376 : decode (mC m_Model_readPart) 376 = .ok (.l2i, 1) := by decide +kernel
theorem d_Model_readPart_377 : decode (mC m_Model_readPart) 377 = .ok (.goto 4, 3) := by decide +kernel
theorem d_Model_readPart_380 : decode (mC m_Model_readPart) 380 = .ok (.iconst 0, 1) := by decide +kernel
theorem d_Model_readPart_381 : decode (mC m_Model_readPart) 381 = .ok (.iastore, 1) := by decide +kernel
theorem d_Model_readPart_382 : decode (mC m_Model_readPart) 382 = .ok (.aload_n 0, 1) := by decide +kernel
theorem d_Model_readPart_383 : decode (mC m_Model_readPart) 383 = .ok (.getfield 46, 3) := by decide +kernel
theorem d_Model_readPart_386 : decode (mC m_Model_readPart) 386 = .ok (.iload_n 1, 1) := by decide +kernel
theorem d_Model_readPart_387 : decode (mC m_Model_readPart) 387 = .ok (.iload 18, 2) := by decide +kernel
theorem d_Model_readPart_389 : decode (mC m_Model_readPart) 389 = .ok (.ifCond .eq 9, 3) := by decide +kernel
theorem d_Model_readPart_392 : decode (mC m_Model_readPart) 392 = .ok (.lload 14, 2) := by decide +kernel
theorem d_Model_readPart_394 : decode (mC m_Model_readPart) 394 = .ok (.l2i, 1) := by decide +kernel
theorem d_Model_readPart_395 : decode (mC m_Model_readPart) 395 = .ok (.goto 4, 3) := by decide +kernel
theorem d_Model_readPart_398 : decode (mC m_Model_readPart) 398 = .ok (.iconst 0, 1) := by decide +kernel
theorem d_Model_readPart_399 : decode (mC m_Model_readPart) 399 = .ok (.iastore, 1) := by decide +kernel
theorem d_Model_readPart_400 : decode (mC m_Model_readPart) 400 = .ok (.aload_n 0, 1) := by decide +kernel
theorem d_Model_readPart_401 : decode (mC m_Model_readPart) 401 = .ok (.getfield 52, 3) := by decide +kernel
theorem d_Model_readPart_404 : decode (mC m_Model_readPart) 404 = .ok (.iload_n 1, 1) := by decide +kernel
theorem d_Model_readPart_405 : decode (mC m_Model_readPart) 405 = .ok (.iload 18, 2) := by decide +kernel
theorem d_Model_readPart_407 : decode (mC m_Model_readPart) 407 = .ok (.ifCond .eq 9, 3) := by decide +kernel
theorem d_Model_readPart_410 : decode (mC m_Model_readPart) 410 = .ok (.lload 16, 2) := by decide +kernel
theorem d_Model_readPart_412 : decode (mC m_Model_readPart) 412 = .ok (.l2i, 1) := by decide +kernel
theorem d_Model_readPart_413 : decode (mC m_Model_readPart) 413 = .ok (.goto 4, 3) := by decide +kernel
theorem d_Model_readPart_416 : decode (mC m_Model_readPart) 416 = .ok (.iconst 0, 1) := by decide +kernel
theorem d_Model_readPart_417 : decode (mC m_Model_readPart) 417 = .ok (.iastore, 1) := by decide +kernel
theorem d_Model_readPart_418 : decode (mC m_Model_readPart) 418 = .ok (.iload 18, 2) := by decide +kernel
theorem d_Model_readPart_420 : decode (mC m_Model_readPart) 420 = .ok (.ifCond .eq 54, 3) := by decide +kernel
theorem d_Model_readPart_423 : decode (mC m_Model_readPart) 423 = .ok (.aload_n 0, 1) := by decide +kernel
theorem d_Model_readPart_424 : decode (mC m_Model_readPart) 424 = .ok (.getfield 34, 3) := by decide +kernel
theorem d_Model_readPart_427 : decode (mC m_Model_readPart) 427 = .ok (.iload_n 1, 1) := by decide +kernel
theorem d_Model_readPart_428 : decode (mC m_Model_readPart) 428 = .ok (.iaload, 1) := by decide +kernel
theorem d_Model_readPart_429 : decode (mC m_Model_readPart) 429 = .ok (.ifCond .le 45, 3) := by decide +kernel
theorem d_Model_readPart_432 : decode (mC m_Model_readPart) 432 = .ok (.aload_n 0, 1) := by decide +kernel
theorem d_Model_readPart_433 : decode (mC m_Model_readPart) 433 = .ok (.getfield 37, 3) := by decide +kernel
theorem d_Model_readPart_436 : decode (mC m_Model_readPart) 436 = .ok (.iload_n 1, 1) := by decide +kernel
theorem d_Model_readPart_437 : decode (mC m_Model_readPart) 437 = .ok (.iaload, 1) := by decide +kernel
theorem d_Model_readPart_438 : decode (mC m_Model_readPart) 438 = .ok (.invokestatic 246, 3) := by decide +kernel
theorem d_Model_readPart_441 : decode (mC m_Model_readPart) 441 = .ok (.ifCond .eq 33, 3) := by decide +kernel
theorem d_Model_readPart_444 : decode (mC m_Model_readPart) 444 = .ok (.aload_n 0, 1) := by decide +kernel
theorem d_Model_readPart_445 : decode (mC m_Model_readPart) 445 = .ok (.getfield 40, 3) := by decide +kernel
theorem d_Model_readPart_448 : decode (mC m_Model_readPart) 448 = .ok (.iload_n 1, 1) := by decide +kernel
theorem d_Model_readPart_449 : decode (mC m_Model_readPart) 449 = .ok (.iaload, 1) := by decide +kernel
theorem d_Model_readPart_450 : decode (mC m_Model_readPart) 450 = .ok (.invokestatic 246, 3) := by decide +kernel
theorem d_Model_readPart_453 : decode (mC m_Model_readPart) 453 = .ok (.ifCond .eq 21, 3) := by decide +kernel
theorem d_Model_readPart_456 : decode (mC m_Model_readPart) 456 = .ok (.aload_n 0, 1) := by decide +kernel
theorem d_Model_readPart_457 : decode (mC m_Model_readPart) 457 = .ok (.aload_n 0, 1) := by decide +kernel
theorem d_Model_readPart_458 : decode (mC m_Model_readPart) 458 = .ok (.getfield 34, 3) := by decide +kernel
theorem d_Model_readPart_461 : decode (mC m_Model_readPart) 461 = .ok (.iload_n 1, 1) := by decide +kernel
theorem d_Model_readPart_462 : decode (mC m_Model_readPart) 462 = .ok (.iaload, 1) := by decide +kernel
theorem d_Model_readPart_463 : decode (mC m_Model_readPart) 463 = .ok (.iload_n 1, 1) := by decide +kernel
theorem d_Model_readPart_464 : decode (mC m_Model_readPart) 464 = .ok (.invokevirtual 249, 3) := by decide +kernel
theorem d_Model_readPart_467 : decode (mC m_Model_readPart) 467 = .ok (.ifCond .ge 7, 3) := by decide +kernel
theorem d_Model_readPart_470 : decode (mC m_Model_readPart) 470 = .ok (.iconst 1, 1) := by decide +kernel
theorem d_Model_readPart_471 : decode (mC m_Model_readPart) 471 = .ok (.goto 4, 3) := by decide +kernel
theorem d_Model_readPart_474 : decode (mC m_Model_readPart) 474 = .ok (.iconst 0, 1) := by decide +kernel
theorem d_Model_readPart_475 : decode (mC m_Model_readPart) 475 = .ok (.ireturn, 1) := by decide +kernel
def b_Model_readPart_474 (F : Nat) (w : zW) : Option (Int32 × zW) := some ((0 : Int32), w)
set_option maxRecDepth 100000 in
set_option maxHeartbeats 4000000 in
theorem b_Model_readPart_474_ok (G : zG) (F : Nat) (w : zW) (r : (Int32 × zW)) (h : b_Model_readPart_474 F w = some r) : zV G m_Model_readPart 474 [] [] w 0 0 (oI r.1) r.2 := by
  unfold b_Model_readPart_474 at h
  refine V_iconst (v := 0) d_Model_readPart_474 (by decide) ?_
  obtain rfl := Option.some.inj h
  exact V_zret rfl (Or.inl rfl) (by decide) (by decide) d_Model_readPart_475
def b_Model_readPart_417 (F : Nat) (v0 : Nat) (v1 : Int32) (v18 : Int32) (s0 : Nat) (s1 : Int32) (s2 : Int32) (w : zW) : Option (Int32 × zW) := (aset w s0 s1 s2).bind fun w417 => if v18 = 0 then (b_Model_readPart_474 F w417) else ((getR w417 v0 9 20).bind fun x424 => (aget w417 x424 v1).bind fun x428 => if x428 ≤ 0 then (b_Model_readPart_474 F w417) else ((getR w417 v0 9 21).bind fun x433 => (aget w417 x433 v1).bind fun x437 => (f_Model_isEight F x437 w417).bind fun r438 => if r438.1 = 0 then (b_Model_readPart_474 F r438.2) else ((getR r438.2 v0 9 22).bind fun x445 => (aget r438.2 x445 v1).bind fun x449 => (f_Model_isEight F x449 r438.2).bind fun r450 => if r450.1 = 0 then (b_Model_readPart_474 F r450.2) else ((getR r450.2 v0 9 20).bind fun x458 => (aget r450.2 x458 v1).bind fun x462 => (zobj r450.2 v0 9).bind fun _ => (f_Model_find F v0 x462 v1 r450.2).bind fun r464 => if 0 ≤ r464.1 then (b_Model_readPart_474 F r464.2) else (some ((1 : Int32), r464.2))))))
set_option maxRecDepth 100000 in
set_option maxHeartbeats 4000000 in
theorem b_Model_readPart_417_ok (G : zG) (F : Nat) (v0 : Nat) (v1 : Int32) (v18 : Int32) (s0 : Nat) (s1 : Int32) (s2 : Int32) (w : zW) (r : (Int32 × zW)) (h : b_Model_readPart_417 F v0 v1 v18 s0 s1 s2 w = some r) : zV G m_Model_readPart 417 [(0, .ref (z0 G + v0)), (1, .int v1), (18, .int v18)] [.int s2, .int s1, .ref (z0 G + s0)] w 0 0 (oI r.1) r.2 := by
  unfold b_Model_readPart_417 at h
  obtain ⟨w417, e417, h⟩ := ob h
  refine V_aset d_Model_readPart_417 e417 ?_
  refine V_iload (i := 18) d_Model_readPart_418 2 rfl ?_
  refine V_if_eq (tgt := 474) d_Model_readPart_420 (by decide) (fun c420 => ?_) (fun c420 => ?_)
  · rw [if_pos c420] at h
    refine V_lv [] rfl ?_
    exact b_Model_readPart_474_ok G F w417 _ h
  · rw [if_neg c420] at h
    refine V_aload_n (i := 0) d_Model_readPart_423 rfl 0 rfl ?_
    obtain ⟨x424, e424, h⟩ := ob h
    refine V_getR (ci := 9) (k := 20) d_Model_readPart_424 e424 rfl (by decide) in_Model k902 ?_
    refine V_iload_n (i := 1) d_Model_readPart_427 rfl 1 rfl ?_
    obtain ⟨x428, e428, h⟩ := ob h
    refine V_aget d_Model_readPart_428 e428 ?_
    refine V_if_le (tgt := 474) d_Model_readPart_429 (by decide) (fun c429 => ?_) (fun c429 => ?_)
    · rw [if_pos c429] at h
      refine V_lv [] rfl ?_
      exact b_Model_readPart_474_ok G F w417 _ h
    · rw [if_neg c429] at h
      refine V_aload_n (i := 0) d_Model_readPart_432 rfl 0 rfl ?_
      obtain ⟨x433, e433, h⟩ := ob h
      refine V_getR (ci := 9) (k := 21) d_Model_readPart_433 e433 rfl (by decide) in_Model k903 ?_
      refine V_iload_n (i := 1) d_Model_readPart_436 rfl 1 rfl ?_
      obtain ⟨x437, e437, h⟩ := ob h
      refine V_aget d_Model_readPart_437 e437 ?_
      obtain ⟨r438, e438, h⟩ := ob h
      refine V_call (v := some (.int r438.1)) (st := []) (inv_S (N := m_Model_isEight) (As := [.int x437]) d_Model_readPart_438 k1185 k1186 k10 (Or.inl kc_Model_isEight) y_Model_isEight) ⟨Or.inl kc_Model_isEight, k10, by decide, by decide⟩ (Nat.le_of_ble_eq_true rfl) (by decide) (by decide) (c_Model_isEight G F x437 w417 r438 e438) ?_
      refine V_if_eq (tgt := 474) d_Model_readPart_441 (by decide) (fun c441 => ?_) (fun c441 => ?_)
      · rw [if_pos c441] at h
        refine V_lv [] rfl ?_
        exact b_Model_readPart_474_ok G F r438.2 _ h
      · rw [if_neg c441] at h
        refine V_aload_n (i := 0) d_Model_readPart_444 rfl 0 rfl ?_
        obtain ⟨x445, e445, h⟩ := ob h
        refine V_getR (ci := 9) (k := 22) d_Model_readPart_445 e445 rfl (by decide) in_Model k904 ?_
        refine V_iload_n (i := 1) d_Model_readPart_448 rfl 1 rfl ?_
        obtain ⟨x449, e449, h⟩ := ob h
        refine V_aget d_Model_readPart_449 e449 ?_
        obtain ⟨r450, e450, h⟩ := ob h
        refine V_call (v := some (.int r450.1)) (st := []) (inv_S (N := m_Model_isEight) (As := [.int x449]) d_Model_readPart_450 k1185 k1186 k10 (Or.inl kc_Model_isEight) y_Model_isEight) ⟨Or.inl kc_Model_isEight, k10, by decide, by decide⟩ (Nat.le_of_ble_eq_true rfl) (by decide) (by decide) (c_Model_isEight G F x449 r438.2 r450 e450) ?_
        refine V_if_eq (tgt := 474) d_Model_readPart_453 (by decide) (fun c453 => ?_) (fun c453 => ?_)
        · rw [if_pos c453] at h
          refine V_lv [] rfl ?_
          exact b_Model_readPart_474_ok G F r450.2 _ h
        · rw [if_neg c453] at h
          refine V_aload_n (i := 0) d_Model_readPart_456 rfl 0 rfl ?_
          refine V_aload_n (i := 0) d_Model_readPart_457 rfl 0 rfl ?_
          obtain ⟨x458, e458, h⟩ := ob h
          refine V_getR (ci := 9) (k := 20) d_Model_readPart_458 e458 rfl (by decide) in_Model k902 ?_
          refine V_iload_n (i := 1) d_Model_readPart_461 rfl 1 rfl ?_
          obtain ⟨x462, e462, h⟩ := ob h
          refine V_aget d_Model_readPart_462 e462 ?_
          refine V_iload_n (i := 1) d_Model_readPart_463 rfl 1 rfl ?_
          obtain ⟨_, eo464, h⟩ := ob h
          obtain ⟨r464, e464, h⟩ := ob h
          refine V_call (v := some (.int r464.1)) (st := []) (inv_V (N := m_Model_find) (As := [.int x462, .int v1]) (ci := 9) d_Model_readPart_464 eo464 rfl k1188 k1190 sel_Model_find kc_Model_find y_Model_find) ⟨Or.inl kc_Model_find, k10, by decide, by decide⟩ (Nat.le_of_ble_eq_true rfl) (by decide) (by decide) (c_Model_find G F v0 x462 v1 r450.2 r464 e464) ?_
          refine V_if_ge (tgt := 474) d_Model_readPart_467 (by decide) (fun c467 => ?_) (fun c467 => ?_)
          · rw [if_pos c467] at h
            refine V_lv [] rfl ?_
            exact b_Model_readPart_474_ok G F r464.2 _ h
          · rw [if_neg c467] at h
            refine V_iconst (v := 1) d_Model_readPart_470 (by decide) ?_
            refine V_goto (tgt := 475) d_Model_readPart_471 (by decide) ?_
            obtain rfl := Option.some.inj h
            exact V_zret rfl (Or.inr rfl) (by decide) (by decide) d_Model_readPart_475
def b_Model_readPart_399 (F : Nat) (v0 : Nat) (v1 : Int32) (v16 : Int64) (v18 : Int32) (s0 : Nat) (s1 : Int32) (s2 : Int32) (w : zW) : Option (Int32 × zW) := (aset w s0 s1 s2).bind fun w399 => (getR w399 v0 9 26).bind fun x401 => if v18 = 0 then (b_Model_readPart_417 F v0 v1 v18 x401 v1 (0 : Int32) w399) else (b_Model_readPart_417 F v0 v1 v18 x401 v1 v16.toInt32 w399)
set_option maxRecDepth 100000 in
set_option maxHeartbeats 4000000 in
theorem b_Model_readPart_399_ok (G : zG) (F : Nat) (v0 : Nat) (v1 : Int32) (v16 : Int64) (v18 : Int32) (s0 : Nat) (s1 : Int32) (s2 : Int32) (w : zW) (r : (Int32 × zW)) (h : b_Model_readPart_399 F v0 v1 v16 v18 s0 s1 s2 w = some r) : zV G m_Model_readPart 399 [(0, .ref (z0 G + v0)), (1, .int v1), (16, .long v16), (18, .int v18)] [.int s2, .int s1, .ref (z0 G + s0)] w 0 0 (oI r.1) r.2 := by
  unfold b_Model_readPart_399 at h
  obtain ⟨w399, e399, h⟩ := ob h
  refine V_aset d_Model_readPart_399 e399 ?_
  refine V_aload_n (i := 0) d_Model_readPart_400 rfl 0 rfl ?_
  obtain ⟨x401, e401, h⟩ := ob h
  refine V_getR (ci := 9) (k := 26) d_Model_readPart_401 e401 rfl (by decide) in_Model k908 ?_
  refine V_iload_n (i := 1) d_Model_readPart_404 rfl 1 rfl ?_
  refine V_iload (i := 18) d_Model_readPart_405 3 rfl ?_
  refine V_if_eq (tgt := 416) d_Model_readPart_407 (by decide) (fun c407 => ?_) (fun c407 => ?_)
  · rw [if_pos c407] at h
    refine V_iconst (v := 0) d_Model_readPart_416 (by decide) ?_
    refine V_lv [0, 1, 3] rfl ?_
    exact b_Model_readPart_417_ok G F v0 v1 v18 x401 v1 (0 : Int32) w399 _ h
  · rw [if_neg c407] at h
    refine V_lload (i := 16) d_Model_readPart_410 2 rfl ?_
    refine V_l2i d_Model_readPart_412 ?_
    refine V_goto (tgt := 417) d_Model_readPart_413 (by decide) ?_
    refine V_lv [0, 1, 3] rfl ?_
    exact b_Model_readPart_417_ok G F v0 v1 v18 x401 v1 v16.toInt32 w399 _ h
def b_Model_readPart_381 (F : Nat) (v0 : Nat) (v1 : Int32) (v14 : Int64) (v16 : Int64) (v18 : Int32) (s0 : Nat) (s1 : Int32) (s2 : Int32) (w : zW) : Option (Int32 × zW) := (aset w s0 s1 s2).bind fun w381 => (getR w381 v0 9 24).bind fun x383 => if v18 = 0 then (b_Model_readPart_399 F v0 v1 v16 v18 x383 v1 (0 : Int32) w381) else (b_Model_readPart_399 F v0 v1 v16 v18 x383 v1 v14.toInt32 w381)
set_option maxRecDepth 100000 in
set_option maxHeartbeats 4000000 in
theorem b_Model_readPart_381_ok (G : zG) (F : Nat) (v0 : Nat) (v1 : Int32) (v14 : Int64) (v16 : Int64) (v18 : Int32) (s0 : Nat) (s1 : Int32) (s2 : Int32) (w : zW) (r : (Int32 × zW)) (h : b_Model_readPart_381 F v0 v1 v14 v16 v18 s0 s1 s2 w = some r) : zV G m_Model_readPart 381 [(0, .ref (z0 G + v0)), (1, .int v1), (14, .long v14), (16, .long v16), (18, .int v18)] [.int s2, .int s1, .ref (z0 G + s0)] w 0 0 (oI r.1) r.2 := by
  unfold b_Model_readPart_381 at h
  obtain ⟨w381, e381, h⟩ := ob h
  refine V_aset d_Model_readPart_381 e381 ?_
  refine V_aload_n (i := 0) d_Model_readPart_382 rfl 0 rfl ?_
  obtain ⟨x383, e383, h⟩ := ob h
  refine V_getR (ci := 9) (k := 24) d_Model_readPart_383 e383 rfl (by decide) in_Model k906 ?_
  refine V_iload_n (i := 1) d_Model_readPart_386 rfl 1 rfl ?_
  refine V_iload (i := 18) d_Model_readPart_387 4 rfl ?_
  refine V_if_eq (tgt := 398) d_Model_readPart_389 (by decide) (fun c389 => ?_) (fun c389 => ?_)
  · rw [if_pos c389] at h
    refine V_iconst (v := 0) d_Model_readPart_398 (by decide) ?_
    refine V_lv [0, 1, 3, 4] rfl ?_
    exact b_Model_readPart_399_ok G F v0 v1 v16 v18 x383 v1 (0 : Int32) w381 _ h
  · rw [if_neg c389] at h
    refine V_lload (i := 14) d_Model_readPart_392 2 rfl ?_
    refine V_l2i d_Model_readPart_394 ?_
    refine V_goto (tgt := 399) d_Model_readPart_395 (by decide) ?_
    refine V_lv [0, 1, 3, 4] rfl ?_
    exact b_Model_readPart_399_ok G F v0 v1 v16 v18 x383 v1 v14.toInt32 w381 _ h
def b_Model_readPart_362 (F : Nat) (v0 : Nat) (v1 : Int32) (v12 : Int64) (v14 : Int64) (v16 : Int64) (s0 : Int32) (w : zW) : Option (Int32 × zW) := (getR w v0 9 25).bind fun x365 => if s0 = 0 then (b_Model_readPart_381 F v0 v1 v14 v16 s0 x365 v1 (0 : Int32) w) else (b_Model_readPart_381 F v0 v1 v14 v16 s0 x365 v1 v12.toInt32 w)
set_option maxRecDepth 100000 in
set_option maxHeartbeats 4000000 in
theorem b_Model_readPart_362_ok (G : zG) (F : Nat) (v0 : Nat) (v1 : Int32) (v12 : Int64) (v14 : Int64) (v16 : Int64) (s0 : Int32) (w : zW) (r : (Int32 × zW)) (h : b_Model_readPart_362 F v0 v1 v12 v14 v16 s0 w = some r) : zV G m_Model_readPart 362 [(0, .ref (z0 G + v0)), (1, .int v1), (12, .long v12), (14, .long v14), (16, .long v16)] [.int s0] w 0 0 (oI r.1) r.2 := by
  unfold b_Model_readPart_362 at h
  refine V_istore (i := 18) d_Model_readPart_362 (by decide) rfl ?_
  refine V_aload_n (i := 0) d_Model_readPart_364 rfl 1 rfl ?_
  obtain ⟨x365, e365, h⟩ := ob h
  refine V_getR (ci := 9) (k := 25) d_Model_readPart_365 e365 rfl (by decide) in_Model k907 ?_
  refine V_iload_n (i := 1) d_Model_readPart_368 rfl 2 rfl ?_
  refine V_iload (i := 18) d_Model_readPart_369 0 rfl ?_
  refine V_if_eq (tgt := 380) d_Model_readPart_371 (by decide) (fun c371 => ?_) (fun c371 => ?_)
  · rw [if_pos c371] at h
    refine V_iconst (v := 0) d_Model_readPart_380 (by decide) ?_
    refine V_lv [1, 2, 4, 5, 0] rfl ?_
    exact b_Model_readPart_381_ok G F v0 v1 v14 v16 s0 x365 v1 (0 : Int32) w _ h
  · rw [if_neg c371] at h
    refine V_lload (i := 12) d_Model_readPart_374 3 rfl ?_
    refine V_l2i d_Model_readPart_376 ?_
    refine V_goto (tgt := 381) d_Model_readPart_377 (by decide) ?_
    refine V_lv [1, 2, 4, 5, 0] rfl ?_
    exact b_Model_readPart_381_ok G F v0 v1 v14 v16 s0 x365 v1 v12.toInt32 w _ h
def b_Model_readPart_361 (F : Nat) (v0 : Nat) (v1 : Int32) (v12 : Int64) (v14 : Int64) (v16 : Int64) (w : zW) : Option (Int32 × zW) := b_Model_readPart_362 F v0 v1 v12 v14 v16 (0 : Int32) w
set_option maxRecDepth 100000 in
set_option maxHeartbeats 4000000 in
theorem b_Model_readPart_361_ok (G : zG) (F : Nat) (v0 : Nat) (v1 : Int32) (v12 : Int64) (v14 : Int64) (v16 : Int64) (w : zW) (r : (Int32 × zW)) (h : b_Model_readPart_361 F v0 v1 v12 v14 v16 w = some r) : zV G m_Model_readPart 361 [(0, .ref (z0 G + v0)), (1, .int v1), (12, .long v12), (14, .long v14), (16, .long v16)] [] w 0 0 (oI r.1) r.2 := by
  unfold b_Model_readPart_361 at h
  refine V_iconst (v := 0) d_Model_readPart_361 (by decide) ?_
  exact b_Model_readPart_362_ok G F v0 v1 v12 v14 v16 (0 : Int32) w _ h
def b_Model_readPart_312 (F : Nat) (v0 : Nat) (v1 : Int32) (v12 : Int64) (v14 : Int64) (s0 : Nat) (s1 : Int32) (s2 : Int32) (s3 : Int32) (w : zW) : Option (Int32 × zW) := (zobj w s0 9).bind fun _ => (f_Model_told F s0 s1 s2 s3 w).bind fun r312 => (f_Model_within F v12 (0 : Int64) (200 : Int64) r312.2).bind fun r323 => if r323.1 = 0 then (b_Model_readPart_361 F v0 v1 v12 v14 r312.1 r323.2) else ((getI r323.2 v0 9 18).bind fun x333 => (f_Model_within F v14 (0 : Int64) x333.toInt64 r323.2).bind fun r337 => if r337.1 = 0 then (b_Model_readPart_361 F v0 v1 v12 v14 r312.1 r337.2) else ((getI r337.2 v0 9 18).bind fun x347 => (f_Model_within F r312.1 (0 : Int64) x347.toInt64 r337.2).bind fun r351 => if r351.1 = 0 then (b_Model_readPart_361 F v0 v1 v12 v14 r312.1 r351.2) else (b_Model_readPart_362 F v0 v1 v12 v14 r312.1 (1 : Int32) r351.2)))
set_option maxRecDepth 100000 in
set_option maxHeartbeats 4000000 in
theorem b_Model_readPart_312_ok (G : zG) (F : Nat) (v0 : Nat) (v1 : Int32) (v12 : Int64) (v14 : Int64) (s0 : Nat) (s1 : Int32) (s2 : Int32) (s3 : Int32) (w : zW) (r : (Int32 × zW)) (h : b_Model_readPart_312 F v0 v1 v12 v14 s0 s1 s2 s3 w = some r) : zV G m_Model_readPart 312 [(0, .ref (z0 G + v0)), (1, .int v1), (12, .long v12), (14, .long v14)] [.int s3, .int s2, .int s1, .ref (z0 G + s0)] w 0 0 (oI r.1) r.2 := by
  unfold b_Model_readPart_312 at h
  obtain ⟨_, eo312, h⟩ := ob h
  obtain ⟨r312, e312, h⟩ := ob h
  refine V_call (v := some (.long r312.1)) (st := []) (inv_V (N := m_Model_told) (As := [.int s1, .int s2, .int s3]) (ci := 9) d_Model_readPart_312 eo312 rfl k1180 k1182 sel_Model_told kc_Model_told y_Model_told) ⟨Or.inl kc_Model_told, k10, by decide, by decide⟩ (Nat.le_of_ble_eq_true rfl) (by decide) (by decide) (c_Model_told G F s0 s1 s2 s3 w r312 e312) ?_
  refine V_lstore (i := 16) d_Model_readPart_315 (by decide) rfl ?_
  refine V_lload (i := 12) d_Model_readPart_317 3 rfl ?_
  refine V_lconst (v := 0) d_Model_readPart_319 (by decide) ?_
  refine V_ldc2 (v := 200) d_Model_readPart_320 k1003 ?_
  obtain ⟨r323, e323, h⟩ := ob h
  refine V_call (v := some (.int r323.1)) (st := []) (inv_S (N := m_Model_within) (As := [.long v12, .long (0 : Int64), .long (200 : Int64)]) d_Model_readPart_323 k995 k996 k10 (Or.inl kc_Model_within) y_Model_within) ⟨Or.inl kc_Model_within, k10, by decide, by decide⟩ (Nat.le_of_ble_eq_true rfl) (by decide) (by decide) (c_Model_within G F v12 (0 : Int64) (200 : Int64) r312.2 r323 e323) ?_
  refine V_if_eq (tgt := 361) d_Model_readPart_326 (by decide) (fun c326 => ?_) (fun c326 => ?_)
  · rw [if_pos c326] at h
    refine V_lv [1, 2, 3, 4, 0] rfl ?_
    exact b_Model_readPart_361_ok G F v0 v1 v12 v14 r312.1 r323.2 _ h
  · rw [if_neg c326] at h
    refine V_lload (i := 14) d_Model_readPart_329 4 rfl ?_
    refine V_lconst (v := 0) d_Model_readPart_331 (by decide) ?_
    refine V_aload_n (i := 0) d_Model_readPart_332 rfl 1 rfl ?_
    obtain ⟨x333, e333, h⟩ := ob h
    refine V_getI (ci := 9) (k := 18) d_Model_readPart_333 e333 rfl (by decide) in_Model k900 ?_
    refine V_i2l d_Model_readPart_336 ?_
    obtain ⟨r337, e337, h⟩ := ob h
    refine V_call (v := some (.int r337.1)) (st := []) (inv_S (N := m_Model_within) (As := [.long v14, .long (0 : Int64), .long x333.toInt64]) d_Model_readPart_337 k995 k996 k10 (Or.inl kc_Model_within) y_Model_within) ⟨Or.inl kc_Model_within, k10, by decide, by decide⟩ (Nat.le_of_ble_eq_true rfl) (by decide) (by decide) (c_Model_within G F v14 (0 : Int64) x333.toInt64 r323.2 r337 e337) ?_
    refine V_if_eq (tgt := 361) d_Model_readPart_340 (by decide) (fun c340 => ?_) (fun c340 => ?_)
    · rw [if_pos c340] at h
      refine V_lv [1, 2, 3, 4, 0] rfl ?_
      exact b_Model_readPart_361_ok G F v0 v1 v12 v14 r312.1 r337.2 _ h
    · rw [if_neg c340] at h
      refine V_lload (i := 16) d_Model_readPart_343 0 rfl ?_
      refine V_lconst (v := 0) d_Model_readPart_345 (by decide) ?_
      refine V_aload_n (i := 0) d_Model_readPart_346 rfl 1 rfl ?_
      obtain ⟨x347, e347, h⟩ := ob h
      refine V_getI (ci := 9) (k := 18) d_Model_readPart_347 e347 rfl (by decide) in_Model k900 ?_
      refine V_i2l d_Model_readPart_350 ?_
      obtain ⟨r351, e351, h⟩ := ob h
      refine V_call (v := some (.int r351.1)) (st := []) (inv_S (N := m_Model_within) (As := [.long r312.1, .long (0 : Int64), .long x347.toInt64]) d_Model_readPart_351 k995 k996 k10 (Or.inl kc_Model_within) y_Model_within) ⟨Or.inl kc_Model_within, k10, by decide, by decide⟩ (Nat.le_of_ble_eq_true rfl) (by decide) (by decide) (c_Model_within G F r312.1 (0 : Int64) x347.toInt64 r337.2 r351 e351) ?_
      refine V_if_eq (tgt := 361) d_Model_readPart_354 (by decide) (fun c354 => ?_) (fun c354 => ?_)
      · rw [if_pos c354] at h
        refine V_lv [1, 2, 3, 4, 0] rfl ?_
        exact b_Model_readPart_361_ok G F v0 v1 v12 v14 r312.1 r351.2 _ h
      · rw [if_neg c354] at h
        refine V_iconst (v := 1) d_Model_readPart_357 (by decide) ?_
        refine V_goto (tgt := 362) d_Model_readPart_358 (by decide) ?_
        refine V_lv [1, 2, 3, 4, 0] rfl ?_
        exact b_Model_readPart_362_ok G F v0 v1 v12 v14 r312.1 (1 : Int32) r351.2 _ h
def b_Model_readPart_286 (F : Nat) (v0 : Nat) (v1 : Int32) (v2 : Int32) (v8 : Int32) (v10 : Int32) (v11 : Int32) (v12 : Int64) (s0 : Nat) (s1 : Int32) (s2 : Int32) (s3 : Int32) (w : zW) : Option (Int32 × zW) := (zobj w s0 9).bind fun _ => (f_Model_told F s0 s1 s2 s3 w).bind fun r286 => if 0 ≤ v11 then (b_Model_readPart_312 F v0 v1 v12 r286.1 v0 (v2 + (42 : Int32)) v8 (v11 + v10) r286.2) else (b_Model_readPart_312 F v0 v1 v12 r286.1 v0 (v2 + (42 : Int32)) v8 (-1 : Int32) r286.2)
set_option maxRecDepth 100000 in
set_option maxHeartbeats 4000000 in
theorem b_Model_readPart_286_ok (G : zG) (F : Nat) (v0 : Nat) (v1 : Int32) (v2 : Int32) (v8 : Int32) (v10 : Int32) (v11 : Int32) (v12 : Int64) (s0 : Nat) (s1 : Int32) (s2 : Int32) (s3 : Int32) (w : zW) (r : (Int32 × zW)) (h : b_Model_readPart_286 F v0 v1 v2 v8 v10 v11 v12 s0 s1 s2 s3 w = some r) : zV G m_Model_readPart 286 [(0, .ref (z0 G + v0)), (1, .int v1), (2, .int v2), (8, .int v8), (10, .int v10), (11, .int v11), (12, .long v12)] [.int s3, .int s2, .int s1, .ref (z0 G + s0)] w 0 0 (oI r.1) r.2 := by
  unfold b_Model_readPart_286 at h
  obtain ⟨_, eo286, h⟩ := ob h
  obtain ⟨r286, e286, h⟩ := ob h
  refine V_call (v := some (.long r286.1)) (st := []) (inv_V (N := m_Model_told) (As := [.int s1, .int s2, .int s3]) (ci := 9) d_Model_readPart_286 eo286 rfl k1180 k1182 sel_Model_told kc_Model_told y_Model_told) ⟨Or.inl kc_Model_told, k10, by decide, by decide⟩ (Nat.le_of_ble_eq_true rfl) (by decide) (by decide) (c_Model_told G F s0 s1 s2 s3 w r286 e286) ?_
  refine V_lstore (i := 14) d_Model_readPart_289 (by decide) rfl ?_
  refine V_aload_n (i := 0) d_Model_readPart_291 rfl 1 rfl ?_
  refine V_iload_n (i := 2) d_Model_readPart_292 rfl 3 rfl ?_
  refine V_bipush (v := 42) d_Model_readPart_293 (by decide) ?_
  refine V_iadd d_Model_readPart_295 ?_
  refine V_iload (i := 8) d_Model_readPart_296 4 rfl ?_
  refine V_iload (i := 11) d_Model_readPart_298 6 rfl ?_
  refine V_if_ge (tgt := 307) d_Model_readPart_300 (by decide) (fun c300 => ?_) (fun c300 => ?_)
  · rw [if_pos c300] at h
    refine V_iload (i := 11) d_Model_readPart_307 6 rfl ?_
    refine V_iload (i := 10) d_Model_readPart_309 5 rfl ?_
    refine V_iadd d_Model_readPart_311 ?_
    refine V_lv [1, 2, 7, 0] rfl ?_
    exact b_Model_readPart_312_ok G F v0 v1 v12 r286.1 v0 (v2 + (42 : Int32)) v8 (v11 + v10) r286.2 _ h
  · rw [if_neg c300] at h
    refine V_iconst (v := -1) d_Model_readPart_303 (by decide) ?_
    refine V_goto (tgt := 312) d_Model_readPart_304 (by decide) ?_
    refine V_lv [1, 2, 7, 0] rfl ?_
    exact b_Model_readPart_312_ok G F v0 v1 v12 r286.1 v0 (v2 + (42 : Int32)) v8 (-1 : Int32) r286.2 _ h
def b_Model_readPart_246 (F : Nat) (v0 : Nat) (v1 : Int32) (v2 : Int32) (v6 : Int32) (v7 : Int32) (v8 : Int32) (v9 : Int32) (v10 : Int32) (s0 : Nat) (s1 : Int32) (s2 : Int32) (s3 : Int32) (w : zW) : Option (Int32 × zW) := (zobj w s0 9).bind fun _ => (f_Model_recordIn F s0 s1 s2 s3 w).bind fun r246 => (zobj r246.2 v0 9).bind fun _ => (f_Model_told F v0 (v2 + (24 : Int32)) v6 r246.1 r246.2).bind fun r260 => if 0 ≤ r246.1 then (b_Model_readPart_286 F v0 v1 v2 v8 v10 r246.1 r260.1 v0 (v2 + (20 : Int32)) v7 (r246.1 + v9) r260.2) else (b_Model_readPart_286 F v0 v1 v2 v8 v10 r246.1 r260.1 v0 (v2 + (20 : Int32)) v7 (-1 : Int32) r260.2)
set_option maxRecDepth 100000 in
set_option maxHeartbeats 4000000 in
theorem b_Model_readPart_246_ok (G : zG) (F : Nat) (v0 : Nat) (v1 : Int32) (v2 : Int32) (v6 : Int32) (v7 : Int32) (v8 : Int32) (v9 : Int32) (v10 : Int32) (s0 : Nat) (s1 : Int32) (s2 : Int32) (s3 : Int32) (w : zW) (r : (Int32 × zW)) (h : b_Model_readPart_246 F v0 v1 v2 v6 v7 v8 v9 v10 s0 s1 s2 s3 w = some r) : zV G m_Model_readPart 246 [(0, .ref (z0 G + v0)), (1, .int v1), (2, .int v2), (6, .int v6), (7, .int v7), (8, .int v8), (9, .int v9), (10, .int v10)] [.int s3, .int s2, .int s1, .ref (z0 G + s0)] w 0 0 (oI r.1) r.2 := by
  unfold b_Model_readPart_246 at h
  obtain ⟨_, eo246, h⟩ := ob h
  obtain ⟨r246, e246, h⟩ := ob h
  refine V_call (v := some (.int r246.1)) (st := []) (inv_V (N := m_Model_recordIn) (As := [.int s1, .int s2, .int s3]) (ci := 9) d_Model_readPart_246 eo246 rfl k1176 k1178 sel_Model_recordIn kc_Model_recordIn y_Model_recordIn) ⟨Or.inl kc_Model_recordIn, k10, by decide, by decide⟩ (Nat.le_of_ble_eq_true rfl) (by decide) (by decide) (c_Model_recordIn G F s0 s1 s2 s3 w r246 e246) ?_
  refine V_istore (i := 11) d_Model_readPart_249 (by decide) rfl ?_
  refine V_aload_n (i := 0) d_Model_readPart_251 rfl 1 rfl ?_
  refine V_iload_n (i := 2) d_Model_readPart_252 rfl 3 rfl ?_
  refine V_bipush (v := 24) d_Model_readPart_253 (by decide) ?_
  refine V_iadd d_Model_readPart_255 ?_
  refine V_iload (i := 6) d_Model_readPart_256 4 rfl ?_
  refine V_iload (i := 11) d_Model_readPart_258 0 rfl ?_
  obtain ⟨_, eo260, h⟩ := ob h
  obtain ⟨r260, e260, h⟩ := ob h
  refine V_call (v := some (.long r260.1)) (st := []) (inv_V (N := m_Model_told) (As := [.int (v2 + (24 : Int32)), .int v6, .int r246.1]) (ci := 9) d_Model_readPart_260 eo260 rfl k1180 k1182 sel_Model_told kc_Model_told y_Model_told) ⟨Or.inl kc_Model_told, k10, by decide, by decide⟩ (Nat.le_of_ble_eq_true rfl) (by decide) (by decide) (c_Model_told G F v0 (v2 + (24 : Int32)) v6 r246.1 r246.2 r260 e260) ?_
  refine V_lstore (i := 12) d_Model_readPart_263 (by decide) rfl ?_
  refine V_aload_n (i := 0) d_Model_readPart_265 rfl 2 rfl ?_
  refine V_iload_n (i := 2) d_Model_readPart_266 rfl 4 rfl ?_
  refine V_bipush (v := 20) d_Model_readPart_267 (by decide) ?_
  refine V_iadd d_Model_readPart_269 ?_
  refine V_iload (i := 7) d_Model_readPart_270 6 rfl ?_
  refine V_iload (i := 11) d_Model_readPart_272 1 rfl ?_
  refine V_if_ge (tgt := 281) d_Model_readPart_274 (by decide) (fun c274 => ?_) (fun c274 => ?_)
  · rw [if_pos c274] at h
    refine V_iload (i := 11) d_Model_readPart_281 1 rfl ?_
    refine V_iload (i := 9) d_Model_readPart_283 8 rfl ?_
    refine V_iadd d_Model_readPart_285 ?_
    refine V_lv [2, 3, 4, 7, 9, 1, 0] rfl ?_
    exact b_Model_readPart_286_ok G F v0 v1 v2 v8 v10 r246.1 r260.1 v0 (v2 + (20 : Int32)) v7 (r246.1 + v9) r260.2 _ h
  · rw [if_neg c274] at h
    refine V_iconst (v := -1) d_Model_readPart_277 (by decide) ?_
    refine V_goto (tgt := 286) d_Model_readPart_278 (by decide) ?_
    refine V_lv [2, 3, 4, 7, 9, 1, 0] rfl ?_
    exact b_Model_readPart_286_ok G F v0 v1 v2 v8 v10 r246.1 r260.1 v0 (v2 + (20 : Int32)) v7 (-1 : Int32) r260.2 _ h
def b_Model_readPart_225 (F : Nat) (v0 : Nat) (v1 : Int32) (v2 : Int32) (v3 : Int32) (v4 : Int32) (v6 : Int32) (v7 : Int32) (v8 : Int32) (v9 : Int32) (s0 : Int32) (w : zW) : Option (Int32 × zW) := if v8 = 0 then (b_Model_readPart_246 F v0 v1 v2 v6 v7 v8 v9 s0 v0 v3 v4 s0 w) else (b_Model_readPart_246 F v0 v1 v2 v6 v7 v8 v9 s0 v0 v3 v4 (s0 + (8 : Int32)) w)
set_option maxRecDepth 100000 in
set_option maxHeartbeats 4000000 in
theorem b_Model_readPart_225_ok (G : zG) (F : Nat) (v0 : Nat) (v1 : Int32) (v2 : Int32) (v3 : Int32) (v4 : Int32) (v6 : Int32) (v7 : Int32) (v8 : Int32) (v9 : Int32) (s0 : Int32) (w : zW) (r : (Int32 × zW)) (h : b_Model_readPart_225 F v0 v1 v2 v3 v4 v6 v7 v8 v9 s0 w = some r) : zV G m_Model_readPart 225 [(0, .ref (z0 G + v0)), (1, .int v1), (2, .int v2), (3, .int v3), (4, .int v4), (6, .int v6), (7, .int v7), (8, .int v8), (9, .int v9)] [.int s0] w 0 0 (oI r.1) r.2 := by
  unfold b_Model_readPart_225 at h
  refine V_istore (i := 10) d_Model_readPart_225 (by decide) rfl ?_
  refine V_aload_n (i := 0) d_Model_readPart_227 rfl 1 rfl ?_
  refine V_iload_n (i := 3) d_Model_readPart_228 rfl 4 rfl ?_
  refine V_iload (i := 4) d_Model_readPart_229 5 rfl ?_
  refine V_iload (i := 8) d_Model_readPart_231 8 rfl ?_
  refine V_if_eq (tgt := 244) d_Model_readPart_233 (by decide) (fun c233 => ?_) (fun c233 => ?_)
  · rw [if_pos c233] at h
    refine V_iload (i := 10) d_Model_readPart_244 0 rfl ?_
    refine V_lv [1, 2, 3, 6, 7, 8, 9, 0] rfl ?_
    exact b_Model_readPart_246_ok G F v0 v1 v2 v6 v7 v8 v9 s0 v0 v3 v4 s0 w _ h
  · rw [if_neg c233] at h
    refine V_iload (i := 10) d_Model_readPart_236 0 rfl ?_
    refine V_bipush (v := 8) d_Model_readPart_238 (by decide) ?_
    refine V_iadd d_Model_readPart_240 ?_
    refine V_goto (tgt := 246) d_Model_readPart_241 (by decide) ?_
    refine V_lv [1, 2, 3, 6, 7, 8, 9, 0] rfl ?_
    exact b_Model_readPart_246_ok G F v0 v1 v2 v6 v7 v8 v9 s0 v0 v3 v4 (s0 + (8 : Int32)) w _ h
def b_Model_readPart_208 (F : Nat) (v0 : Nat) (v1 : Int32) (v2 : Int32) (v3 : Int32) (v4 : Int32) (v6 : Int32) (v7 : Int32) (v8 : Int32) (s0 : Int32) (w : zW) : Option (Int32 × zW) := if v7 = 0 then (b_Model_readPart_225 F v0 v1 v2 v3 v4 v6 v7 v8 s0 s0 w) else (b_Model_readPart_225 F v0 v1 v2 v3 v4 v6 v7 v8 s0 (s0 + (8 : Int32)) w)
set_option maxRecDepth 100000 in
set_option maxHeartbeats 4000000 in
theorem b_Model_readPart_208_ok (G : zG) (F : Nat) (v0 : Nat) (v1 : Int32) (v2 : Int32) (v3 : Int32) (v4 : Int32) (v6 : Int32) (v7 : Int32) (v8 : Int32) (s0 : Int32) (w : zW) (r : (Int32 × zW)) (h : b_Model_readPart_208 F v0 v1 v2 v3 v4 v6 v7 v8 s0 w = some r) : zV G m_Model_readPart 208 [(0, .ref (z0 G + v0)), (1, .int v1), (2, .int v2), (3, .int v3), (4, .int v4), (6, .int v6), (7, .int v7), (8, .int v8)] [.int s0] w 0 0 (oI r.1) r.2 := by
  unfold b_Model_readPart_208 at h
  refine V_istore (i := 9) d_Model_readPart_208 (by decide) rfl ?_
  refine V_iload (i := 7) d_Model_readPart_210 7 rfl ?_
  refine V_if_eq (tgt := 223) d_Model_readPart_212 (by decide) (fun c212 => ?_) (fun c212 => ?_)
  · rw [if_pos c212] at h
    refine V_iload (i := 9) d_Model_readPart_223 0 rfl ?_
    refine V_lv [1, 2, 3, 4, 5, 6, 7, 8, 0] rfl ?_
    exact b_Model_readPart_225_ok G F v0 v1 v2 v3 v4 v6 v7 v8 s0 s0 w _ h
  · rw [if_neg c212] at h
    refine V_iload (i := 9) d_Model_readPart_215 0 rfl ?_
    refine V_bipush (v := 8) d_Model_readPart_217 (by decide) ?_
    refine V_iadd d_Model_readPart_219 ?_
    refine V_goto (tgt := 225) d_Model_readPart_220 (by decide) ?_
    refine V_lv [1, 2, 3, 4, 5, 6, 7, 8, 0] rfl ?_
    exact b_Model_readPart_225_ok G F v0 v1 v2 v3 v4 v6 v7 v8 s0 (s0 + (8 : Int32)) w _ h
def b_Model_readPart_84 (F : Nat) (w : zW) : Option (Int32 × zW) := some ((0 : Int32), w)
set_option maxRecDepth 100000 in
set_option maxHeartbeats 4000000 in
theorem b_Model_readPart_84_ok (G : zG) (F : Nat) (w : zW) (r : (Int32 × zW)) (h : b_Model_readPart_84 F w = some r) : zV G m_Model_readPart 84 [] [] w 0 0 (oI r.1) r.2 := by
  unfold b_Model_readPart_84 at h
  refine V_iconst (v := 0) d_Model_readPart_84 (by decide) ?_
  obtain rfl := Option.some.inj h
  exact V_zret rfl (Or.inl rfl) (by decide) (by decide) d_Model_readPart_85
def b_Model_readPart_24 (F : Nat) (w : zW) : Option (Int32 × zW) := some ((0 : Int32), w)
set_option maxRecDepth 100000 in
set_option maxHeartbeats 4000000 in
theorem b_Model_readPart_24_ok (G : zG) (F : Nat) (w : zW) (r : (Int32 × zW)) (h : b_Model_readPart_24 F w = some r) : zV G m_Model_readPart 24 [] [] w 0 0 (oI r.1) r.2 := by
  unfold b_Model_readPart_24 at h
  refine V_iconst (v := 0) d_Model_readPart_24 (by decide) ?_
  obtain rfl := Option.some.inj h
  exact V_zret rfl (Or.inl rfl) (by decide) (by decide) d_Model_readPart_25
def b_Model_readPart_0 (F : Nat) (v0 : Nat) (v1 : Int32) (v2 : Int32) (w : zW) : Option (Int32 × zW) := (getI w v0 9 19).bind fun x5 => if x5 < (v2 + (46 : Int32)) then (b_Model_readPart_24 F w) else ((zobj w v0 9).bind fun _ => (f_Model_number F v0 v2 (4 : Int32) w).bind fun r14 => if (lg_cmp r14.1 (33639248 : Int64)) = 0 then ((zobj r14.2 v0 9).bind fun _ => (f_Model_two F v0 (v2 + (28 : Int32)) r14.2).bind fun r35 => (zobj r35.2 v0 9).bind fun _ => (f_Model_two F v0 (v2 + (30 : Int32)) r35.2).bind fun r46 => (zobj r46.2 v0 9).bind fun _ => (f_Model_two F v0 (v2 + (32 : Int32)) r46.2).bind fun r59 => (getI r59.2 v0 9 19).bind fun x68 => if x68 < ((((v2 + (46 : Int32)) + r35.1) + r46.1) + r59.1) then (b_Model_readPart_84 F r59.2) else ((zobj r59.2 v0 9).bind fun _ => (f_Model_areRecords F v0 ((v2 + (46 : Int32)) + r35.1) (((v2 + (46 : Int32)) + r35.1) + r46.1) r59.2).bind fun r78 => if r78.1 = 0 then (b_Model_readPart_84 F r78.2) else ((getR r78.2 v0 9 27).bind fun x87 => (aset r78.2 x87 v1 v2).bind fun w92 => (getR w92 v0 9 28).bind fun x94 => (aset w92 x94 v1 ((((v2 + (46 : Int32)) + r35.1) + r46.1) + r59.1)).bind fun w100 => (getR w100 v0 9 20).bind fun x102 => (zobj w100 v0 9).bind fun _ => (f_Model_two F v0 (v2 + (28 : Int32)) w100).bind fun r116 => (zobj r116.2 v0 9).bind fun _ => (f_Model_nameAt F v0 (v2 + (46 : Int32)) r116.1 r116.2).bind fun r119 => (aset r119.2 x102 v1 r119.1).bind fun w122 => (getR w122 v0 9 21).bind fun x124 => (zobj w122 v0 9).bind fun _ => (f_Model_two F v0 (v2 + (8 : Int32)) w122).bind fun r133 => (aset r133.2 x124 v1 r133.1).bind fun w136 => (getR w136 v0 9 22).bind fun x138 => (zobj w136 v0 9).bind fun _ => (f_Model_two F v0 (v2 + (10 : Int32)) w136).bind fun r147 => (aset r147.2 x138 v1 r147.1).bind fun w150 => (getR w150 v0 9 23).bind fun x152 => (zobj w150 v0 9).bind fun _ => (f_Model_number F v0 (v2 + (16 : Int32)) (4 : Int32) w150).bind fun r162 => (aset r162.2 x152 v1 r162.1.toInt32).bind fun w166 => (zobj w166 v0 9).bind fun _ => (f_Model_isWide F v0 (v2 + (24 : Int32)) w166).bind fun r172 => (zobj r172.2 v0 9).bind fun _ => (f_Model_isWide F v0 (v2 + (20 : Int32)) r172.2).bind fun r182 => (zobj r182.2 v0 9).bind fun _ => (f_Model_isWide F v0 (v2 + (42 : Int32)) r182.2).bind fun r192 => if r172.1 = 0 then (b_Model_readPart_208 F v0 v1 v2 ((v2 + (46 : Int32)) + r35.1) (((v2 + (46 : Int32)) + r35.1) + r46.1) r172.1 r182.1 r192.1 (0 : Int32) r192.2) else (b_Model_readPart_208 F v0 v1 v2 ((v2 + (46 : Int32)) + r35.1) (((v2 + (46 : Int32)) + r35.1) + r46.1) r172.1 r182.1 r192.1 (8 : Int32) r192.2)))) else (b_Model_readPart_24 F r14.2))
set_option maxRecDepth 100000 in
set_option maxHeartbeats 4000000 in
theorem b_Model_readPart_0_ok (G : zG) (F : Nat) (v0 : Nat) (v1 : Int32) (v2 : Int32) (w : zW) (r : (Int32 × zW)) (h : b_Model_readPart_0 F v0 v1 v2 w = some r) : zV G m_Model_readPart 0 [(0, .ref (z0 G + v0)), (1, .int v1), (2, .int v2)] [] w 0 0 (oI r.1) r.2 := by
  unfold b_Model_readPart_0 at h
  refine V_iload_n (i := 2) d_Model_readPart_0 rfl 2 rfl ?_
  refine V_bipush (v := 46) d_Model_readPart_1 (by decide) ?_
  refine V_iadd d_Model_readPart_3 ?_
  refine V_aload_n (i := 0) d_Model_readPart_4 rfl 0 rfl ?_
  obtain ⟨x5, e5, h⟩ := ob h
  refine V_getI (ci := 9) (k := 19) d_Model_readPart_5 e5 rfl (by decide) in_Model k901 ?_
  refine V_icmp_gt (tgt := 24) d_Model_readPart_8 (by decide) (fun c8 => ?_) (fun c8 => ?_)
  · rw [if_pos c8] at h
    refine V_lv [] rfl ?_
    exact b_Model_readPart_24_ok G F w _ h
  · rw [if_neg c8] at h
    refine V_aload_n (i := 0) d_Model_readPart_11 rfl 0 rfl ?_
    refine V_iload_n (i := 2) d_Model_readPart_12 rfl 2 rfl ?_
    refine V_iconst (v := 4) d_Model_readPart_13 (by decide) ?_
    obtain ⟨_, eo14, h⟩ := ob h
    obtain ⟨r14, e14, h⟩ := ob h
    refine V_call (v := some (.long r14.1)) (st := []) (inv_V (N := m_Model_number) (As := [.int v2, .int (4 : Int32)]) (ci := 9) d_Model_readPart_14 eo14 rfl k1138 k1140 sel_Model_number kc_Model_number y_Model_number) ⟨Or.inl kc_Model_number, k10, by decide, by decide⟩ (Nat.le_of_ble_eq_true rfl) (by decide) (by decide) (c_Model_number G F v0 v2 (4 : Int32) w r14 e14) ?_
    refine V_ldc2 (v := 33639248) d_Model_readPart_17 k1167 ?_
    refine V_lcmp d_Model_readPart_20 ?_
    refine V_if_eq (tgt := 26) d_Model_readPart_21 (by decide) (fun c21 => ?_) (fun c21 => ?_)
    · rw [if_pos c21] at h
      refine V_iload_n (i := 2) d_Model_readPart_26 rfl 2 rfl ?_
      refine V_bipush (v := 46) d_Model_readPart_27 (by decide) ?_
      refine V_iadd d_Model_readPart_29 ?_
      refine V_aload_n (i := 0) d_Model_readPart_30 rfl 0 rfl ?_
      refine V_iload_n (i := 2) d_Model_readPart_31 rfl 2 rfl ?_
      refine V_bipush (v := 28) d_Model_readPart_32 (by decide) ?_
      refine V_iadd d_Model_readPart_34 ?_
      obtain ⟨_, eo35, h⟩ := ob h
      obtain ⟨r35, e35, h⟩ := ob h
      refine V_call (v := some (.int r35.1)) (st := [.int (v2 + (46 : Int32))]) (inv_V (N := m_Model_two) (As := [.int (v2 + (28 : Int32))]) (ci := 9) d_Model_readPart_35 eo35 rfl k1143 k1145 sel_Model_two kc_Model_two y_Model_two) ⟨Or.inl kc_Model_two, k10, by decide, by decide⟩ (Nat.le_of_ble_eq_true rfl) (by decide) (by decide) (c_Model_two G F v0 (v2 + (28 : Int32)) r14.2 r35 e35) ?_
      refine V_iadd d_Model_readPart_38 ?_
      refine V_istore_n (i := 3) d_Model_readPart_39 rfl (by decide) rfl ?_
      refine V_iload_n (i := 3) d_Model_readPart_40 rfl 0 rfl ?_
      refine V_aload_n (i := 0) d_Model_readPart_41 rfl 1 rfl ?_
      refine V_iload_n (i := 2) d_Model_readPart_42 rfl 3 rfl ?_
      refine V_bipush (v := 30) d_Model_readPart_43 (by decide) ?_
      refine V_iadd d_Model_readPart_45 ?_
      obtain ⟨_, eo46, h⟩ := ob h
      obtain ⟨r46, e46, h⟩ := ob h
      refine V_call (v := some (.int r46.1)) (st := [.int ((v2 + (46 : Int32)) + r35.1)]) (inv_V (N := m_Model_two) (As := [.int (v2 + (30 : Int32))]) (ci := 9) d_Model_readPart_46 eo46 rfl k1143 k1145 sel_Model_two kc_Model_two y_Model_two) ⟨Or.inl kc_Model_two, k10, by decide, by decide⟩ (Nat.le_of_ble_eq_true rfl) (by decide) (by decide) (c_Model_two G F v0 (v2 + (30 : Int32)) r35.2 r46 e46) ?_
      refine V_iadd d_Model_readPart_49 ?_
      refine V_istore (i := 4) d_Model_readPart_50 (by decide) rfl ?_
      refine V_iload (i := 4) d_Model_readPart_52 0 rfl ?_
      refine V_aload_n (i := 0) d_Model_readPart_54 rfl 2 rfl ?_
      refine V_iload_n (i := 2) d_Model_readPart_55 rfl 4 rfl ?_
      refine V_bipush (v := 32) d_Model_readPart_56 (by decide) ?_
      refine V_iadd d_Model_readPart_58 ?_
      obtain ⟨_, eo59, h⟩ := ob h
      obtain ⟨r59, e59, h⟩ := ob h
      refine V_call (v := some (.int r59.1)) (st := [.int (((v2 + (46 : Int32)) + r35.1) + r46.1)]) (inv_V (N := m_Model_two) (As := [.int (v2 + (32 : Int32))]) (ci := 9) d_Model_readPart_59 eo59 rfl k1143 k1145 sel_Model_two kc_Model_two y_Model_two) ⟨Or.inl kc_Model_two, k10, by decide, by decide⟩ (Nat.le_of_ble_eq_true rfl) (by decide) (by decide) (c_Model_two G F v0 (v2 + (32 : Int32)) r46.2 r59 e59) ?_
      refine V_iadd d_Model_readPart_62 ?_
      refine V_istore (i := 5) d_Model_readPart_63 (by decide) rfl ?_
      refine V_iload (i := 5) d_Model_readPart_65 0 rfl ?_
      refine V_aload_n (i := 0) d_Model_readPart_67 rfl 3 rfl ?_
      obtain ⟨x68, e68, h⟩ := ob h
      refine V_getI (ci := 9) (k := 19) d_Model_readPart_68 e68 rfl (by decide) in_Model k901 ?_
      refine V_icmp_gt (tgt := 84) d_Model_readPart_71 (by decide) (fun c71 => ?_) (fun c71 => ?_)
      · rw [if_pos c71] at h
        refine V_lv [] rfl ?_
        exact b_Model_readPart_84_ok G F r59.2 _ h
      · rw [if_neg c71] at h
        refine V_aload_n (i := 0) d_Model_readPart_74 rfl 3 rfl ?_
        refine V_iload_n (i := 3) d_Model_readPart_75 rfl 2 rfl ?_
        refine V_iload (i := 4) d_Model_readPart_76 1 rfl ?_
        obtain ⟨_, eo78, h⟩ := ob h
        obtain ⟨r78, e78, h⟩ := ob h
        refine V_call (v := some (.int r78.1)) (st := []) (inv_V (N := m_Model_areRecords) (As := [.int ((v2 + (46 : Int32)) + r35.1), .int (((v2 + (46 : Int32)) + r35.1) + r46.1)]) (ci := 9) d_Model_readPart_78 eo78 rfl k1168 k1170 sel_Model_areRecords kc_Model_areRecords y_Model_areRecords) ⟨Or.inl kc_Model_areRecords, k10, by decide, by decide⟩ (Nat.le_of_ble_eq_true rfl) (by decide) (by decide) (c_Model_areRecords G F v0 ((v2 + (46 : Int32)) + r35.1) (((v2 + (46 : Int32)) + r35.1) + r46.1) r59.2 r78 e78) ?_
        refine V_if_ne (tgt := 86) d_Model_readPart_81 (by decide) (fun c81 => ?_) (fun c81 => ?_)
        · rw [if_neg c81] at h
          refine V_aload_n (i := 0) d_Model_readPart_86 rfl 3 rfl ?_
          obtain ⟨x87, e87, h⟩ := ob h
          refine V_getR (ci := 9) (k := 27) d_Model_readPart_87 e87 rfl (by decide) in_Model k909 ?_
          refine V_iload_n (i := 1) d_Model_readPart_90 rfl 4 rfl ?_
          refine V_iload_n (i := 2) d_Model_readPart_91 rfl 5 rfl ?_
          obtain ⟨w92, e92, h⟩ := ob h
          refine V_aset d_Model_readPart_92 e92 ?_
          refine V_aload_n (i := 0) d_Model_readPart_93 rfl 3 rfl ?_
          obtain ⟨x94, e94, h⟩ := ob h
          refine V_getR (ci := 9) (k := 28) d_Model_readPart_94 e94 rfl (by decide) in_Model k910 ?_
          refine V_iload_n (i := 1) d_Model_readPart_97 rfl 4 rfl ?_
          refine V_iload (i := 5) d_Model_readPart_98 0 rfl ?_
          obtain ⟨w100, e100, h⟩ := ob h
          refine V_aset d_Model_readPart_100 e100 ?_
          refine V_aload_n (i := 0) d_Model_readPart_101 rfl 3 rfl ?_
          obtain ⟨x102, e102, h⟩ := ob h
          refine V_getR (ci := 9) (k := 20) d_Model_readPart_102 e102 rfl (by decide) in_Model k902 ?_
          refine V_iload_n (i := 1) d_Model_readPart_105 rfl 4 rfl ?_
          refine V_aload_n (i := 0) d_Model_readPart_106 rfl 3 rfl ?_
          refine V_iload_n (i := 2) d_Model_readPart_107 rfl 5 rfl ?_
          refine V_bipush (v := 46) d_Model_readPart_108 (by decide) ?_
          refine V_iadd d_Model_readPart_110 ?_
          refine V_aload_n (i := 0) d_Model_readPart_111 rfl 3 rfl ?_
          refine V_iload_n (i := 2) d_Model_readPart_112 rfl 5 rfl ?_
          refine V_bipush (v := 28) d_Model_readPart_113 (by decide) ?_
          refine V_iadd d_Model_readPart_115 ?_
          obtain ⟨_, eo116, h⟩ := ob h
          obtain ⟨r116, e116, h⟩ := ob h
          refine V_call (v := some (.int r116.1)) (st := [.int (v2 + (46 : Int32)), .ref (z0 G + v0), .int v1, .ref (z0 G + x102)]) (inv_V (N := m_Model_two) (As := [.int (v2 + (28 : Int32))]) (ci := 9) d_Model_readPart_116 eo116 rfl k1143 k1145 sel_Model_two kc_Model_two y_Model_two) ⟨Or.inl kc_Model_two, k10, by decide, by decide⟩ (Nat.le_of_ble_eq_true rfl) (by decide) (by decide) (c_Model_two G F v0 (v2 + (28 : Int32)) w100 r116 e116) ?_
          obtain ⟨_, eo119, h⟩ := ob h
          obtain ⟨r119, e119, h⟩ := ob h
          refine V_call (v := some (.int r119.1)) (st := [.int v1, .ref (z0 G + x102)]) (inv_V (N := m_Model_nameAt) (As := [.int (v2 + (46 : Int32)), .int r116.1]) (ci := 9) d_Model_readPart_119 eo119 rfl k1172 k1174 sel_Model_nameAt kc_Model_nameAt y_Model_nameAt) ⟨Or.inl kc_Model_nameAt, k10, by decide, by decide⟩ (Nat.le_of_ble_eq_true rfl) (by decide) (by decide) (c_Model_nameAt G F v0 (v2 + (46 : Int32)) r116.1 r116.2 r119 e119) ?_
          obtain ⟨w122, e122, h⟩ := ob h
          refine V_aset d_Model_readPart_122 e122 ?_
          refine V_aload_n (i := 0) d_Model_readPart_123 rfl 3 rfl ?_
          obtain ⟨x124, e124, h⟩ := ob h
          refine V_getR (ci := 9) (k := 21) d_Model_readPart_124 e124 rfl (by decide) in_Model k903 ?_
          refine V_iload_n (i := 1) d_Model_readPart_127 rfl 4 rfl ?_
          refine V_aload_n (i := 0) d_Model_readPart_128 rfl 3 rfl ?_
          refine V_iload_n (i := 2) d_Model_readPart_129 rfl 5 rfl ?_
          refine V_bipush (v := 8) d_Model_readPart_130 (by decide) ?_
          refine V_iadd d_Model_readPart_132 ?_
          obtain ⟨_, eo133, h⟩ := ob h
          obtain ⟨r133, e133, h⟩ := ob h
          refine V_call (v := some (.int r133.1)) (st := [.int v1, .ref (z0 G + x124)]) (inv_V (N := m_Model_two) (As := [.int (v2 + (8 : Int32))]) (ci := 9) d_Model_readPart_133 eo133 rfl k1143 k1145 sel_Model_two kc_Model_two y_Model_two) ⟨Or.inl kc_Model_two, k10, by decide, by decide⟩ (Nat.le_of_ble_eq_true rfl) (by decide) (by decide) (c_Model_two G F v0 (v2 + (8 : Int32)) w122 r133 e133) ?_
          obtain ⟨w136, e136, h⟩ := ob h
          refine V_aset d_Model_readPart_136 e136 ?_
          refine V_aload_n (i := 0) d_Model_readPart_137 rfl 3 rfl ?_
          obtain ⟨x138, e138, h⟩ := ob h
          refine V_getR (ci := 9) (k := 22) d_Model_readPart_138 e138 rfl (by decide) in_Model k904 ?_
          refine V_iload_n (i := 1) d_Model_readPart_141 rfl 4 rfl ?_
          refine V_aload_n (i := 0) d_Model_readPart_142 rfl 3 rfl ?_
          refine V_iload_n (i := 2) d_Model_readPart_143 rfl 5 rfl ?_
          refine V_bipush (v := 10) d_Model_readPart_144 (by decide) ?_
          refine V_iadd d_Model_readPart_146 ?_
          obtain ⟨_, eo147, h⟩ := ob h
          obtain ⟨r147, e147, h⟩ := ob h
          refine V_call (v := some (.int r147.1)) (st := [.int v1, .ref (z0 G + x138)]) (inv_V (N := m_Model_two) (As := [.int (v2 + (10 : Int32))]) (ci := 9) d_Model_readPart_147 eo147 rfl k1143 k1145 sel_Model_two kc_Model_two y_Model_two) ⟨Or.inl kc_Model_two, k10, by decide, by decide⟩ (Nat.le_of_ble_eq_true rfl) (by decide) (by decide) (c_Model_two G F v0 (v2 + (10 : Int32)) w136 r147 e147) ?_
          obtain ⟨w150, e150, h⟩ := ob h
          refine V_aset d_Model_readPart_150 e150 ?_
          refine V_aload_n (i := 0) d_Model_readPart_151 rfl 3 rfl ?_
          obtain ⟨x152, e152, h⟩ := ob h
          refine V_getR (ci := 9) (k := 23) d_Model_readPart_152 e152 rfl (by decide) in_Model k905 ?_
          refine V_iload_n (i := 1) d_Model_readPart_155 rfl 4 rfl ?_
          refine V_aload_n (i := 0) d_Model_readPart_156 rfl 3 rfl ?_
          refine V_iload_n (i := 2) d_Model_readPart_157 rfl 5 rfl ?_
          refine V_bipush (v := 16) d_Model_readPart_158 (by decide) ?_
          refine V_iadd d_Model_readPart_160 ?_
          refine V_iconst (v := 4) d_Model_readPart_161 (by decide) ?_
          obtain ⟨_, eo162, h⟩ := ob h
          obtain ⟨r162, e162, h⟩ := ob h
          refine V_call (v := some (.long r162.1)) (st := [.int v1, .ref (z0 G + x152)]) (inv_V (N := m_Model_number) (As := [.int (v2 + (16 : Int32)), .int (4 : Int32)]) (ci := 9) d_Model_readPart_162 eo162 rfl k1138 k1140 sel_Model_number kc_Model_number y_Model_number) ⟨Or.inl kc_Model_number, k10, by decide, by decide⟩ (Nat.le_of_ble_eq_true rfl) (by decide) (by decide) (c_Model_number G F v0 (v2 + (16 : Int32)) (4 : Int32) w150 r162 e162) ?_
          refine V_l2i d_Model_readPart_165 ?_
          obtain ⟨w166, e166, h⟩ := ob h
          refine V_aset d_Model_readPart_166 e166 ?_
          refine V_aload_n (i := 0) d_Model_readPart_167 rfl 3 rfl ?_
          refine V_iload_n (i := 2) d_Model_readPart_168 rfl 5 rfl ?_
          refine V_bipush (v := 24) d_Model_readPart_169 (by decide) ?_
          refine V_iadd d_Model_readPart_171 ?_
          obtain ⟨_, eo172, h⟩ := ob h
          obtain ⟨r172, e172, h⟩ := ob h
          refine V_call (v := some (.int r172.1)) (st := []) (inv_V (N := m_Model_isWide) (As := [.int (v2 + (24 : Int32))]) (ci := 9) d_Model_readPart_172 eo172 rfl k1151 k1153 sel_Model_isWide kc_Model_isWide y_Model_isWide) ⟨Or.inl kc_Model_isWide, k10, by decide, by decide⟩ (Nat.le_of_ble_eq_true rfl) (by decide) (by decide) (c_Model_isWide G F v0 (v2 + (24 : Int32)) w166 r172 e172) ?_
          refine V_istore (i := 6) d_Model_readPart_175 (by decide) rfl ?_
          refine V_aload_n (i := 0) d_Model_readPart_177 rfl 4 rfl ?_
          refine V_iload_n (i := 2) d_Model_readPart_178 rfl 6 rfl ?_
          refine V_bipush (v := 20) d_Model_readPart_179 (by decide) ?_
          refine V_iadd d_Model_readPart_181 ?_
          obtain ⟨_, eo182, h⟩ := ob h
          obtain ⟨r182, e182, h⟩ := ob h
          refine V_call (v := some (.int r182.1)) (st := []) (inv_V (N := m_Model_isWide) (As := [.int (v2 + (20 : Int32))]) (ci := 9) d_Model_readPart_182 eo182 rfl k1151 k1153 sel_Model_isWide kc_Model_isWide y_Model_isWide) ⟨Or.inl kc_Model_isWide, k10, by decide, by decide⟩ (Nat.le_of_ble_eq_true rfl) (by decide) (by decide) (c_Model_isWide G F v0 (v2 + (20 : Int32)) r172.2 r182 e182) ?_
          refine V_istore (i := 7) d_Model_readPart_185 (by decide) rfl ?_
          refine V_aload_n (i := 0) d_Model_readPart_187 rfl 5 rfl ?_
          refine V_iload_n (i := 2) d_Model_readPart_188 rfl 7 rfl ?_
          refine V_bipush (v := 42) d_Model_readPart_189 (by decide) ?_
          refine V_iadd d_Model_readPart_191 ?_
          obtain ⟨_, eo192, h⟩ := ob h
          obtain ⟨r192, e192, h⟩ := ob h
          refine V_call (v := some (.int r192.1)) (st := []) (inv_V (N := m_Model_isWide) (As := [.int (v2 + (42 : Int32))]) (ci := 9) d_Model_readPart_192 eo192 rfl k1151 k1153 sel_Model_isWide kc_Model_isWide y_Model_isWide) ⟨Or.inl kc_Model_isWide, k10, by decide, by decide⟩ (Nat.le_of_ble_eq_true rfl) (by decide) (by decide) (c_Model_isWide G F v0 (v2 + (42 : Int32)) r182.2 r192 e192) ?_
          refine V_istore (i := 8) d_Model_readPart_195 (by decide) rfl ?_
          refine V_iload (i := 6) d_Model_readPart_197 2 rfl ?_
          refine V_if_eq (tgt := 207) d_Model_readPart_199 (by decide) (fun c199 => ?_) (fun c199 => ?_)
          · rw [if_pos c199] at h
            refine V_iconst (v := 0) d_Model_readPart_207 (by decide) ?_
            refine V_lv [6, 7, 8, 5, 4, 2, 1, 0] rfl ?_
            exact b_Model_readPart_208_ok G F v0 v1 v2 ((v2 + (46 : Int32)) + r35.1) (((v2 + (46 : Int32)) + r35.1) + r46.1) r172.1 r182.1 r192.1 (0 : Int32) r192.2 _ h
          · rw [if_neg c199] at h
            refine V_bipush (v := 8) d_Model_readPart_202 (by decide) ?_
            refine V_goto (tgt := 208) d_Model_readPart_204 (by decide) ?_
            refine V_lv [6, 7, 8, 5, 4, 2, 1, 0] rfl ?_
            exact b_Model_readPart_208_ok G F v0 v1 v2 ((v2 + (46 : Int32)) + r35.1) (((v2 + (46 : Int32)) + r35.1) + r46.1) r172.1 r182.1 r192.1 (8 : Int32) r192.2 _ h
        · rw [if_pos c81] at h
          refine V_lv [] rfl ?_
          exact b_Model_readPart_84_ok G F r78.2 _ h
    · rw [if_neg c21] at h
      refine V_lv [] rfl ?_
      exact b_Model_readPart_24_ok G F r14.2 _ h
def f_Model_readPart (F : Nat) (v0 : Nat) (v1 : Int32) (v2 : Int32) (w : zW) : Option (Int32 × zW) := b_Model_readPart_0 F v0 v1 v2 w
theorem c_Model_readPart (G : zG) (F : Nat) (v0 : Nat) (v1 : Int32) (v2 : Int32) (w : zW) (r : (Int32 × zW)) (h : f_Model_readPart F v0 v1 v2 w = some r) : zCT G m_Model_readPart [.ref (z0 G + v0), .int v1, .int v2] w (oI r.1) r.2 := zCT.ofV (by decide +kernel) (Or.inl ⟨kc_Model_readPart, rfl⟩) (Nat.le_of_ble_eq_true rfl) (b_Model_readPart_0_ok G F v0 v1 v2 w r h)

/-! ZipArrayModel.open()I -/
def m_Model_open : zM := (⟨R_Model, "open", "()I"⟩, prog_11_method_52_code, 3, (some .int), [], { frames := 3, cells := 0, slots := 0, locals := 86 })
theorem k1134 : Cond.methodLink R_Model 252 (mY m_Model_findEnd) ∈ zTb := tb_at 1134 (by decide +kernel) rfl
theorem k1136 : Cond.instanceMethod (mY m_Model_findEnd) ∈ zTb := tb_at 1136 (by decide +kernel) rfl
theorem k1147 : Cond.methodLink R_Model 255 (mY m_Model_readEnd) ∈ zTb := tb_at 1147 (by decide +kernel) rfl
theorem k1149 : Cond.instanceMethod (mY m_Model_readEnd) ∈ zTb := tb_at 1149 (by decide +kernel) rfl
theorem k1163 : Cond.methodLink R_Model 258 (mY m_Model_readPart) ∈ zTb := tb_at 1163 (by decide +kernel) rfl
theorem k1165 : Cond.instanceMethod (mY m_Model_readPart) ∈ zTb := tb_at 1165 (by decide +kernel) rfl
theorem kc_Model_open : Cond.code (mY m_Model_open) (mC m_Model_open) (mL m_Model_open) (mT m_Model_open) ∈ zTb := tb_at 1133 (by decide +kernel) rfl
theorem y_Model_open : (mY m_Model_open).cls ≠ "java/lang/invoke/MethodHandle" ∧ (mY m_Model_open).cls ≠ "java/lang/invoke/VarHandle" ∧ (parseMethodDescriptor (mY m_Model_open).desc).map (fun d => d.parameters.length) = some 0 := by decide +kernel
theorem sel_Model_open : Cond.selects R_Model (mY m_Model_open) (mY m_Model_open) ∈ zTb := sel_at (y := mY m_Model_open) (n := 33) 59 (by decide +kernel)
theorem d_Model_open_0 : decode (mC m_Model_open) 0 = .ok (.aload_n 0, 1) := by decide +kernel
theorem d_Model_open_1 : decode (mC m_Model_open) 1 = .ok (.aload_n 0, 1) := by decide +kernel
theorem d_Model_open_2 : decode (mC m_Model_open) 2 = .ok (.invokevirtual 252, 3) := by decide +kernel
theorem d_Model_open_5 : decode (mC m_Model_open) 5 = .ok (.putfield 211, 3) := by decide +kernel
theorem d_Model_open_8 : decode (mC m_Model_open) 8 = .ok (.aload_n 0, 1) := by decide +kernel
theorem d_Model_open_9 : decode (mC m_Model_open) 9 = .ok (.getfield 211, 3) := by decide +kernel
theorem d_Model_open_12 : decode (mC m_Model_open) 12 = .ok (.ifCond .ge 5, 3) := by decide +kernel
theorem d_Model_open_15 : decode (mC m_Model_open) 15 = .ok (.iconst 1, 1) := by decide +kernel
theorem d_Model_open_16 : decode (mC m_Model_open) 16 = .ok (.ireturn, 1) := by decide +kernel
theorem d_Model_open_17 : decode (mC m_Model_open) 17 = .ok (.aload_n 0, 1) := by decide +kernel
theorem d_Model_open_18 : decode (mC m_Model_open) 18 = .ok (.invokevirtual 255, 3) := by decide +kernel
theorem d_Model_open_21 : decode (mC m_Model_open) 21 = .ok (.ifCond .ne 5, 3) := by decide +kernel
theorem d_Model_open_24 : decode (mC m_Model_open) 24 = .ok (.iconst 2, 1) := by decide +kernel
theorem d_Model_open_25 : decode (mC m_Model_open) 25 = .ok (.ireturn, 1) := by decide +kernel
theorem d_Model_open_26 : decode (mC m_Model_open) 26 = .ok (.aload_n 0, 1) := by decide +kernel
theorem d_Model_open_27 : decode (mC m_Model_open) 27 = .ok (.getfield 208, 3) := by decide +kernel
theorem d_Model_open_30 : decode (mC m_Model_open) 30 = .ok (.istore_n 1, 1) := by decide +kernel
theorem d_Model_open_31 : decode (mC m_Model_open) 31 = .ok (.iconst 0, 1) := by decide +kernel
theorem d_Model_open_32 : decode (mC m_Model_open) 32 = .ok (.istore_n 2, 1) := by decide +kernel
theorem d_Model_open_33 : decode (mC m_Model_open) 33 = .ok (.iload_n 2, 1) := by decide +kernel
theorem d_Model_open_34 : decode (mC m_Model_open) 34 = .ok (.aload_n 0, 1) := by decide +kernel
theorem d_Model_open_35 : decode (mC m_Model_open) 35 = .ok (.getfield 205, 3) := by decide +kernel
theorem d_Model_open_38 : decode (mC m_Model_open) 38 = .ok (.if_icmp .ge 27, 3) := by decide +kernel
theorem d_Model_open_41 : decode (mC m_Model_open) 41 = .ok (.aload_n 0, 1) := by decide +kernel
theorem d_Model_open_42 : decode (mC m_Model_open) 42 = .ok (.iload_n 2, 1) := by decide +kernel
theorem d_Model_open_43 : decode (mC m_Model_open) 43 = .ok (.iload_n 1, 1) := by decide +kernel
theorem d_Model_open_44 : decode (mC m_Model_open) 44 = .ok (.invokevirtual 258, 3) := by decide +kernel
theorem d_Model_open_47 : decode (mC m_Model_open) 47 = .ok (.ifCond .ne 5, 3) := by decide +kernel
theorem d_Model_open_50 : decode (mC m_Model_open) 50 = .ok (.iconst 2, 1) := by decide +kernel
theorem d_Model_open_51 : decode (mC m_Model_open) 51 = .ok (.ireturn, 1) := by decide +kernel
theorem d_Model_open_52 : decode (mC m_Model_open) 52 = .ok (.aload_n 0, 1) := by decide +kernel
theorem d_Model_open_53 : decode (mC m_Model_open) 53 = .ok (.getfield 58, 3) := by decide +kernel
theorem d_Model_open_56 : decode (mC m_Model_open) 56 = .ok (.iload_n 2, 1) := by decide +kernel
theorem d_Model_open_57 : decode (mC m_Model_open) 57 = .ok (.iaload, 1) := by decide +kernel
theorem d_Model_open_58 : decode (mC m_Model_open) 58 = .ok (.istore_n 1, 1) := by decide +kernel
theorem d_Model_open_59 : decode (mC m_Model_open) 59 = .ok (.iinc 2 1, 3) := by decide +kernel
theorem d_Model_open_62 : decode (mC m_Model_open) 62 = .ok (.goto (-29), 3) := by decide +kernel
theorem d_Model_open_65 : decode (mC m_Model_open) 65 = .ok (.iload_n 1, 1) := by decide +kernel
theorem d_Model_open_66 : decode (mC m_Model_open) 66 = .ok (.aload_n 0, 1) := by decide +kernel
theorem d_Model_open_67 : decode (mC m_Model_open) 67 = .ok (.getfield 202, 3) := by decide +kernel
theorem d_Model_open_70 : decode (mC m_Model_open) 70 = .ok (.if_icmp .ne 7, 3) := by decide +kernel
theorem d_Model_open_73 : decode (mC m_Model_open) 73 = .ok (.iconst 0, 1) := by decide +kernel
theorem d_Model_open_74 : decode (mC m_Model_open) 74 = .ok (.goto 4, 3) := by decide +kernel
theorem d_Model_open_77 : decode (mC m_Model_open) 77 = .ok (.iconst 2, 1) := by decide +kernel
theorem d_Model_open_78 : decode (mC m_Model_open) 78 = .ok (.ireturn, 1) := by decide +kernel
def b_Model_open_33 (F : Nat) (K33 : Nat → Int32 → Int32 → zW → Option (Int32 × zW)) (v0 : Nat) (v1 : Int32) (v2 : Int32) (w : zW) : Option (Int32 × zW) := (getI w v0 9 17).bind fun x35 => if x35 ≤ v2 then ((getI w v0 9 19).bind fun x67 => if v1 = x67 then (some ((0 : Int32), w)) else (some ((2 : Int32), w))) else ((zobj w v0 9).bind fun _ => (f_Model_readPart F v0 v2 v1 w).bind fun r44 => if r44.1 = 0 then (some ((2 : Int32), r44.2)) else ((getR r44.2 v0 9 28).bind fun x53 => (aget r44.2 x53 v2).bind fun x57 => K33 v0 x57 (v2 + (1 : Int32)) r44.2))
set_option maxRecDepth 100000 in
set_option maxHeartbeats 4000000 in
theorem b_Model_open_33_ok (G : zG) (F : Nat) (K33 : Nat → Int32 → Int32 → zW → Option (Int32 × zW)) (hK33 : ∀ (v0 : Nat) (v1 : Int32) (v2 : Int32) (w : zW) (r : (Int32 × zW)), K33 v0 v1 v2 w = some r → zV G m_Model_open 33 [(0, .ref (z0 G + v0)), (1, .int v1), (2, .int v2)] [] w 0 0 (oI r.1) r.2) (v0 : Nat) (v1 : Int32) (v2 : Int32) (w : zW) (r : (Int32 × zW)) (h : b_Model_open_33 F K33 v0 v1 v2 w = some r) : zV G m_Model_open 33 [(0, .ref (z0 G + v0)), (1, .int v1), (2, .int v2)] [] w 0 0 (oI r.1) r.2 := by
  unfold b_Model_open_33 at h
  refine V_iload_n (i := 2) d_Model_open_33 rfl 2 rfl ?_
  refine V_aload_n (i := 0) d_Model_open_34 rfl 0 rfl ?_
  obtain ⟨x35, e35, h⟩ := ob h
  refine V_getI (ci := 9) (k := 17) d_Model_open_35 e35 rfl (by decide) in_Model k899 ?_
  refine V_icmp_ge (tgt := 65) d_Model_open_38 (by decide) (fun c38 => ?_) (fun c38 => ?_)
  · rw [if_pos c38] at h
    refine V_iload_n (i := 1) d_Model_open_65 rfl 1 rfl ?_
    refine V_aload_n (i := 0) d_Model_open_66 rfl 0 rfl ?_
    obtain ⟨x67, e67, h⟩ := ob h
    refine V_getI (ci := 9) (k := 19) d_Model_open_67 e67 rfl (by decide) in_Model k901 ?_
    refine V_icmp_ne (tgt := 77) d_Model_open_70 (by decide) (fun c70 => ?_) (fun c70 => ?_)
    · rw [if_neg c70] at h
      refine V_iconst (v := 2) d_Model_open_77 (by decide) ?_
      obtain rfl := Option.some.inj h
      exact V_iret rfl (by decide) (by decide) d_Model_open_78
    · rw [if_pos c70] at h
      refine V_iconst (v := 0) d_Model_open_73 (by decide) ?_
      refine V_goto (tgt := 78) d_Model_open_74 (by decide) ?_
      obtain rfl := Option.some.inj h
      exact V_iret rfl (by decide) (by decide) d_Model_open_78
  · rw [if_neg c38] at h
    refine V_aload_n (i := 0) d_Model_open_41 rfl 0 rfl ?_
    refine V_iload_n (i := 2) d_Model_open_42 rfl 2 rfl ?_
    refine V_iload_n (i := 1) d_Model_open_43 rfl 1 rfl ?_
    obtain ⟨_, eo44, h⟩ := ob h
    obtain ⟨r44, e44, h⟩ := ob h
    refine V_call (v := some (.int r44.1)) (st := []) (inv_V (N := m_Model_readPart) (As := [.int v2, .int v1]) (ci := 9) d_Model_open_44 eo44 rfl k1163 k1165 sel_Model_readPart kc_Model_readPart y_Model_readPart) ⟨Or.inl kc_Model_readPart, k10, by decide, by decide⟩ (Nat.le_of_ble_eq_true rfl) (by decide) (by decide) (c_Model_readPart G F v0 v2 v1 w r44 e44) ?_
    refine V_if_ne (tgt := 52) d_Model_open_47 (by decide) (fun c47 => ?_) (fun c47 => ?_)
    · rw [if_neg c47] at h
      refine V_aload_n (i := 0) d_Model_open_52 rfl 0 rfl ?_
      obtain ⟨x53, e53, h⟩ := ob h
      refine V_getR (ci := 9) (k := 28) d_Model_open_53 e53 rfl (by decide) in_Model k910 ?_
      refine V_iload_n (i := 2) d_Model_open_56 rfl 2 rfl ?_
      obtain ⟨x57, e57, h⟩ := ob h
      refine V_aget d_Model_open_57 e57 ?_
      refine V_istore_n (i := 1) d_Model_open_58 rfl (by decide) rfl ?_
      refine V_iinc (i := 2) (v := (v2 + (1 : Int32))) d_Model_open_59 2 rfl (congrArg (fun y => v2 + y) (by decide : Int32.ofInt (1) = (1 : Int32))) (by decide) rfl ?_
      refine V_goto (tgt := 33) d_Model_open_62 (by decide) ?_
      refine V_lv [2, 1, 0] rfl ?_
      exact hK33 v0 x57 (v2 + (1 : Int32)) r44.2 _ h
    · rw [if_pos c47] at h
      refine V_iconst (v := 2) d_Model_open_50 (by decide) ?_
      obtain rfl := Option.some.inj h
      exact V_iret rfl (by decide) (by decide) d_Model_open_51
def l_Model_open_33 (F : Nat) : Nat → Nat → Int32 → Int32 → zW → Option (Int32 × zW)
  | 0 => fun _ _ _ _ => none
  | n + 1 => b_Model_open_33 F (l_Model_open_33 F n)
theorem l_Model_open_33_ok (G : zG) (F : Nat) (n : Nat) :  ∀ (v0 : Nat) (v1 : Int32) (v2 : Int32) (w : zW) (r : (Int32 × zW)), l_Model_open_33 F n v0 v1 v2 w = some r → zV G m_Model_open 33 [(0, .ref (z0 G + v0)), (1, .int v1), (2, .int v2)] [] w 0 0 (oI r.1) r.2 := by
  induction n with
  | zero => intro v0 v1 v2 w r h; exact nomatch (show (none : Option (Int32 × zW)) = some r from h)
  | succ n ih => intro v0 v1 v2 w r h; exact b_Model_open_33_ok G F (l_Model_open_33 F n) ih v0 v1 v2 w r h
def b_Model_open_0 (F : Nat) (v0 : Nat) (w : zW) : Option (Int32 × zW) := (zobj w v0 9).bind fun _ => (f_Model_findEnd F v0 w).bind fun r2 => (putI r2.2 v0 9 16 r2.1).bind fun w5 => (getI w5 v0 9 16).bind fun x9 => if 0 ≤ x9 then ((zobj w5 v0 9).bind fun _ => (f_Model_readEnd F v0 w5).bind fun r18 => if r18.1 = 0 then (some ((2 : Int32), r18.2)) else ((getI r18.2 v0 9 18).bind fun x27 => l_Model_open_33 F F v0 x27 (0 : Int32) r18.2)) else (some ((1 : Int32), w5))
set_option maxRecDepth 100000 in
set_option maxHeartbeats 4000000 in
theorem b_Model_open_0_ok (G : zG) (F : Nat) (v0 : Nat) (w : zW) (r : (Int32 × zW)) (h : b_Model_open_0 F v0 w = some r) : zV G m_Model_open 0 [(0, .ref (z0 G + v0))] [] w 0 0 (oI r.1) r.2 := by
  unfold b_Model_open_0 at h
  refine V_aload_n (i := 0) d_Model_open_0 rfl 0 rfl ?_
  refine V_aload_n (i := 0) d_Model_open_1 rfl 0 rfl ?_
  obtain ⟨_, eo2, h⟩ := ob h
  obtain ⟨r2, e2, h⟩ := ob h
  refine V_call (v := some (.int r2.1)) (st := [.ref (z0 G + v0)]) (inv_V (N := m_Model_findEnd) (As := []) (ci := 9) d_Model_open_2 eo2 rfl k1134 k1136 sel_Model_findEnd kc_Model_findEnd y_Model_findEnd) ⟨Or.inl kc_Model_findEnd, k10, by decide, by decide⟩ (Nat.le_of_ble_eq_true rfl) (by decide) (by decide) (c_Model_findEnd G F v0 w r2 e2) ?_
  obtain ⟨w5, e5, h⟩ := ob h
  refine V_putI (ci := 9) (k := 16) t_Model d_Model_open_5 e5 rfl (by decide) in_Model k898 ty_Model nm_Model rfl (Or.inl rfl) ?_
  refine V_aload_n (i := 0) d_Model_open_8 rfl 0 rfl ?_
  obtain ⟨x9, e9, h⟩ := ob h
  refine V_getI (ci := 9) (k := 16) d_Model_open_9 e9 rfl (by decide) in_Model k898 ?_
  refine V_if_ge (tgt := 17) d_Model_open_12 (by decide) (fun c12 => ?_) (fun c12 => ?_)
  · rw [if_pos c12] at h
    refine V_aload_n (i := 0) d_Model_open_17 rfl 0 rfl ?_
    obtain ⟨_, eo18, h⟩ := ob h
    obtain ⟨r18, e18, h⟩ := ob h
    refine V_call (v := some (.int r18.1)) (st := []) (inv_V (N := m_Model_readEnd) (As := []) (ci := 9) d_Model_open_18 eo18 rfl k1147 k1149 sel_Model_readEnd kc_Model_readEnd y_Model_readEnd) ⟨Or.inl kc_Model_readEnd, k10, by decide, by decide⟩ (Nat.le_of_ble_eq_true rfl) (by decide) (by decide) (c_Model_readEnd G F v0 w5 r18 e18) ?_
    refine V_if_ne (tgt := 26) d_Model_open_21 (by decide) (fun c21 => ?_) (fun c21 => ?_)
    · rw [if_neg c21] at h
      refine V_aload_n (i := 0) d_Model_open_26 rfl 0 rfl ?_
      obtain ⟨x27, e27, h⟩ := ob h
      refine V_getI (ci := 9) (k := 18) d_Model_open_27 e27 rfl (by decide) in_Model k900 ?_
      refine V_istore_n (i := 1) d_Model_open_30 rfl (by decide) rfl ?_
      refine V_iconst (v := 0) d_Model_open_31 (by decide) ?_
      refine V_istore_n (i := 2) d_Model_open_32 rfl (by decide) rfl ?_
      refine V_lv [2, 1, 0] rfl ?_
      exact l_Model_open_33_ok G F F v0 x27 (0 : Int32) r18.2 _ h
    · rw [if_pos c21] at h
      refine V_iconst (v := 2) d_Model_open_24 (by decide) ?_
      obtain rfl := Option.some.inj h
      exact V_iret rfl (by decide) (by decide) d_Model_open_25
  · rw [if_neg c12] at h
    refine V_iconst (v := 1) d_Model_open_15 (by decide) ?_
    obtain rfl := Option.some.inj h
    exact V_iret rfl (by decide) (by decide) d_Model_open_16
def f_Model_open (F : Nat) (v0 : Nat) (w : zW) : Option (Int32 × zW) := b_Model_open_0 F v0 w
theorem c_Model_open (G : zG) (F : Nat) (v0 : Nat) (w : zW) (r : (Int32 × zW)) (h : f_Model_open F v0 w = some r) : zCT G m_Model_open [.ref (z0 G + v0)] w (oI r.1) r.2 := zCT.ofV (by decide +kernel) (Or.inl ⟨kc_Model_open, rfl⟩) (Nat.le_of_ble_eq_true rfl) (b_Model_open_0_ok G F v0 w r h)
