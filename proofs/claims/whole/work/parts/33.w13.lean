/-! ZipArrayModel.check()I -/
def m_Model_check : zM := (⟨R_Model, "check", "()I"⟩, prog_11_method_58_code, 5, (some .int), [], { frames := 6, cells := 0, slots := 0, locals := 146 })
theorem k1130 : Cond.methodLink R_Model 281 (mY m_Model_open) ∈ zTb := tb_at 1130 (by decide +kernel) rfl
theorem k1132 : Cond.instanceMethod (mY m_Model_open) ∈ zTb := tb_at 1132 (by decide +kernel) rfl
theorem k1192 : Cond.methodLink R_Model 284 (mY m_Model_fault) ∈ zTb := tb_at 1192 (by decide +kernel) rfl
theorem k1194 : Cond.instanceMethod (mY m_Model_fault) ∈ zTb := tb_at 1194 (by decide +kernel) rfl
theorem kc_Model_check : Cond.code (mY m_Model_check) (mC m_Model_check) (mL m_Model_check) (mT m_Model_check) ∈ zTb := tb_at 1129 (by decide +kernel) rfl
theorem y_Model_check : (mY m_Model_check).cls ≠ "java/lang/invoke/MethodHandle" ∧ (mY m_Model_check).cls ≠ "java/lang/invoke/VarHandle" ∧ (parseMethodDescriptor (mY m_Model_check).desc).map (fun d => d.parameters.length) = some 0 := by decide +kernel
theorem d_Model_check_0 : decode (mC m_Model_check) 0 = .ok (.aload_n 0, 1) := by decide +kernel
theorem d_Model_check_1 : decode (mC m_Model_check) 1 = .ok (.iconst 0, 1) := by decide +kernel
theorem d_Model_check_2 : decode (mC m_Model_check) 2 = .ok (.putfield 70, 3) := by decide +kernel
theorem d_Model_check_5 : decode (mC m_Model_check) 5 = .ok (.aload_n 0, 1) := by decide +kernel
theorem d_Model_check_6 : decode (mC m_Model_check) 6 = .ok (.invokevirtual 281, 3) := by decide +kernel
theorem d_Model_check_9 : decode (mC m_Model_check) 9 = .ok (.istore_n 1, 1) := by decide +kernel
theorem d_Model_check_10 : decode (mC m_Model_check) 10 = .ok (.iload_n 1, 1) := by decide +kernel
theorem d_Model_check_11 : decode (mC m_Model_check) 11 = .ok (.ifCond .ne 10, 3) := by decide +kernel
theorem d_Model_check_14 : decode (mC m_Model_check) 14 = .ok (.aload_n 0, 1) := by decide +kernel
theorem d_Model_check_15 : decode (mC m_Model_check) 15 = .ok (.getfield 205, 3) := by decide +kernel
theorem d_Model_check_18 : decode (mC m_Model_check) 18 = .ok (.goto 4, 3) := by decide +kernel
theorem d_Model_check_21 : decode (mC m_Model_check) 21 = .ok (.iconst 0, 1) := by decide +kernel
theorem d_Model_check_22 : decode (mC m_Model_check) 22 = .ok (.istore_n 2, 1) := by decide +kernel
theorem d_Model_check_23 : decode (mC m_Model_check) 23 = .ok (.iconst 0, 1) := by decide +kernel
theorem d_Model_check_24 : decode (mC m_Model_check) 24 = .ok (.istore_n 3, 1) := by decide +kernel
theorem d_Model_check_25 : decode (mC m_Model_check) 25 = .ok (.iload_n 3, 1) := by decide +kernel
theorem d_Model_check_26 : decode (mC m_Model_check) 26 = .ok (.iload_n 2, 1) := by decide +kernel
theorem d_Model_check_27 : decode (mC m_Model_check) 27 = .ok (.if_icmp .ge 37, 3) := by decide +kernel
theorem d_Model_check_30 : decode (mC m_Model_check) 30 = .ok (.iload_n 1, 1) := by decide +kernel
theorem d_Model_check_31 : decode (mC m_Model_check) 31 = .ok (.ifCond .ne 33, 3) := by decide +kernel
theorem d_Model_check_34 : decode (mC m_Model_check) 34 = .ok (.aload_n 0, 1) := by decide +kernel
theorem d_Model_check_35 : decode (mC m_Model_check) 35 = .ok (.iload_n 3, 1) := by decide +kernel
theorem d_Model_check_36 : decode (mC m_Model_check) 36 = .ok (.invokevirtual 284, 3) := by decide +kernel
theorem d_Model_check_39 : decode (mC m_Model_check) 39 = .ok (.istore 4, 2) := by decide +kernel
theorem d_Model_check_41 : decode (mC m_Model_check) 41 = .ok (.iload 4, 2) := by decide +kernel
theorem d_Model_check_43 : decode (mC m_Model_check) 43 = .ok (.ifCond .ne 7, 3) := by decide +kernel
theorem d_Model_check_46 : decode (mC m_Model_check) 46 = .ok (.iconst 0, 1) := by decide +kernel
theorem d_Model_check_47 : decode (mC m_Model_check) 47 = .ok (.goto 10, 3) := by decide +kernel
theorem d_Model_check_50 : decode (mC m_Model_check) 50 = .ok (.bipush 100, 2) := by decide +kernel
theorem d_Model_check_52 : decode (mC m_Model_check) 52 = .ok (.iload_n 3, 1) := by decide +kernel
theorem d_Model_check_53 : decode (mC m_Model_check) 53 = .ok (.imul, 1) := by decide +kernel
theorem d_Model_check_54 : decode (mC m_Model_check) 54 = .ok (.iload 4, 2) := by decide +kernel
theorem d_Model_check_56 : decode (mC m_Model_check) 56 = .ok (.iadd, 1) := by decide +kernel
theorem d_Model_check_57 : decode (mC m_Model_check) 57 = .ok (.istore_n 1, 1) := by decide +kernel
theorem d_Model_check_58 : decode (mC m_Model_check) 58 = .ok (.iinc 3 1, 3) := by decide +kernel
theorem d_Model_check_61 : decode (mC m_Model_check) 61 = .ok (.goto (-36), 3) := by decide +kernel
theorem d_Model_check_64 : decode (mC m_Model_check) 64 = .ok (.iload_n 1, 1) := by decide +kernel
theorem d_Model_check_65 : decode (mC m_Model_check) 65 = .ok (.ireturn, 1) := by decide +kernel
def b_Model_check_64 (F : Nat) (v1 : Int32) (w : zW) : Option (Int32 × zW) := some (v1, w)
set_option maxRecDepth 100000 in
set_option maxHeartbeats 4000000 in
theorem b_Model_check_64_ok (G : zG) (F : Nat) (v1 : Int32) (w : zW) (r : (Int32 × zW)) (h : b_Model_check_64 F v1 w = some r) : zV G m_Model_check 64 [(1, .int v1)] [] w 0 0 (oI r.1) r.2 := by
  unfold b_Model_check_64 at h
  refine V_iload_n (i := 1) d_Model_check_64 rfl 0 rfl ?_
  obtain rfl := Option.some.inj h
  exact V_iret rfl (by decide) (by decide) d_Model_check_65
def b_Model_check_57 (F : Nat) (K25 : Nat → Int32 → Int32 → Int32 → zW → Option (Int32 × zW)) (v0 : Nat) (v2 : Int32) (v3 : Int32) (s0 : Int32) (w : zW) : Option (Int32 × zW) := K25 v0 s0 v2 (v3 + (1 : Int32)) w
set_option maxRecDepth 100000 in
set_option maxHeartbeats 4000000 in
theorem b_Model_check_57_ok (G : zG) (F : Nat) (K25 : Nat → Int32 → Int32 → Int32 → zW → Option (Int32 × zW)) (hK25 : ∀ (v0 : Nat) (v1 : Int32) (v2 : Int32) (v3 : Int32) (w : zW) (r : (Int32 × zW)), K25 v0 v1 v2 v3 w = some r → zV G m_Model_check 25 [(0, .ref (z0 G + v0)), (1, .int v1), (2, .int v2), (3, .int v3)] [] w 0 0 (oI r.1) r.2) (v0 : Nat) (v2 : Int32) (v3 : Int32) (s0 : Int32) (w : zW) (r : (Int32 × zW)) (h : b_Model_check_57 F K25 v0 v2 v3 s0 w = some r) : zV G m_Model_check 57 [(0, .ref (z0 G + v0)), (2, .int v2), (3, .int v3)] [.int s0] w 0 0 (oI r.1) r.2 := by
  unfold b_Model_check_57 at h
  refine V_istore_n (i := 1) d_Model_check_57 rfl (by decide) rfl ?_
  refine V_iinc (i := 3) (v := (v3 + (1 : Int32))) d_Model_check_58 3 rfl (congrArg (fun y => v3 + y) (by decide : Int32.ofInt (1) = (1 : Int32))) (by decide) rfl ?_
  refine V_goto (tgt := 25) d_Model_check_61 (by decide) ?_
  refine V_lv [2, 1, 3, 0] rfl ?_
  exact hK25 v0 s0 v2 (v3 + (1 : Int32)) w _ h
def b_Model_check_25 (F : Nat) (K25 : Nat → Int32 → Int32 → Int32 → zW → Option (Int32 × zW)) (v0 : Nat) (v1 : Int32) (v2 : Int32) (v3 : Int32) (w : zW) : Option (Int32 × zW) := if v2 ≤ v3 then (b_Model_check_64 F v1 w) else (if v1 = 0 then ((zobj w v0 9).bind fun _ => (f_Model_fault F v0 v3 w).bind fun r36 => if r36.1 = 0 then (b_Model_check_57 F K25 v0 v2 v3 (0 : Int32) r36.2) else (b_Model_check_57 F K25 v0 v2 v3 (((100 : Int32) * v3) + r36.1) r36.2)) else (b_Model_check_64 F v1 w))
set_option maxRecDepth 100000 in
set_option maxHeartbeats 4000000 in
theorem b_Model_check_25_ok (G : zG) (F : Nat) (K25 : Nat → Int32 → Int32 → Int32 → zW → Option (Int32 × zW)) (hK25 : ∀ (v0 : Nat) (v1 : Int32) (v2 : Int32) (v3 : Int32) (w : zW) (r : (Int32 × zW)), K25 v0 v1 v2 v3 w = some r → zV G m_Model_check 25 [(0, .ref (z0 G + v0)), (1, .int v1), (2, .int v2), (3, .int v3)] [] w 0 0 (oI r.1) r.2) (v0 : Nat) (v1 : Int32) (v2 : Int32) (v3 : Int32) (w : zW) (r : (Int32 × zW)) (h : b_Model_check_25 F K25 v0 v1 v2 v3 w = some r) : zV G m_Model_check 25 [(0, .ref (z0 G + v0)), (1, .int v1), (2, .int v2), (3, .int v3)] [] w 0 0 (oI r.1) r.2 := by
  unfold b_Model_check_25 at h
  refine V_iload_n (i := 3) d_Model_check_25 rfl 3 rfl ?_
  refine V_iload_n (i := 2) d_Model_check_26 rfl 2 rfl ?_
  refine V_icmp_ge (tgt := 64) d_Model_check_27 (by decide) (fun c27 => ?_) (fun c27 => ?_)
  · rw [if_pos c27] at h
    refine V_lv [1] rfl ?_
    exact b_Model_check_64_ok G F v1 w _ h
  · rw [if_neg c27] at h
    refine V_iload_n (i := 1) d_Model_check_30 rfl 1 rfl ?_
    refine V_if_ne (tgt := 64) d_Model_check_31 (by decide) (fun c31 => ?_) (fun c31 => ?_)
    · rw [if_neg c31] at h
      refine V_lv [1] rfl ?_
      exact b_Model_check_64_ok G F v1 w _ h
    · rw [if_pos c31] at h
      refine V_aload_n (i := 0) d_Model_check_34 rfl 0 rfl ?_
      refine V_iload_n (i := 3) d_Model_check_35 rfl 3 rfl ?_
      obtain ⟨_, eo36, h⟩ := ob h
      obtain ⟨r36, e36, h⟩ := ob h
      refine V_call (v := some (.int r36.1)) (st := []) (inv_V (N := m_Model_fault) (As := [.int v3]) (ci := 9) d_Model_check_36 eo36 rfl k1192 k1194 sel_Model_fault kc_Model_fault y_Model_fault) ⟨Or.inl kc_Model_fault, k10, by decide, by decide⟩ (Nat.le_of_ble_eq_true rfl) (by decide) (by decide) (c_Model_fault G F v0 v3 w r36 e36) ?_
      refine V_istore (i := 4) d_Model_check_39 (by decide) rfl ?_
      refine V_iload (i := 4) d_Model_check_41 0 rfl ?_
      refine V_if_ne (tgt := 50) d_Model_check_43 (by decide) (fun c43 => ?_) (fun c43 => ?_)
      · rw [if_neg c43] at h
        refine V_bipush (v := 100) d_Model_check_50 (by decide) ?_
        refine V_iload_n (i := 3) d_Model_check_52 rfl 4 rfl ?_
        refine V_imul d_Model_check_53 ?_
        refine V_iload (i := 4) d_Model_check_54 0 rfl ?_
        refine V_iadd d_Model_check_56 ?_
        refine V_lv [1, 3, 4] rfl ?_
        exact b_Model_check_57_ok G F K25 hK25 v0 v2 v3 (((100 : Int32) * v3) + r36.1) r36.2 _ h
      · rw [if_pos c43] at h
        refine V_iconst (v := 0) d_Model_check_46 (by decide) ?_
        refine V_goto (tgt := 57) d_Model_check_47 (by decide) ?_
        refine V_lv [1, 3, 4] rfl ?_
        exact b_Model_check_57_ok G F K25 hK25 v0 v2 v3 (0 : Int32) r36.2 _ h
def l_Model_check_25 (F : Nat) : Nat → Nat → Int32 → Int32 → Int32 → zW → Option (Int32 × zW)
  | 0 => fun _ _ _ _ _ => none
  | n + 1 => b_Model_check_25 F (l_Model_check_25 F n)
theorem l_Model_check_25_ok (G : zG) (F : Nat) (n : Nat) :  ∀ (v0 : Nat) (v1 : Int32) (v2 : Int32) (v3 : Int32) (w : zW) (r : (Int32 × zW)), l_Model_check_25 F n v0 v1 v2 v3 w = some r → zV G m_Model_check 25 [(0, .ref (z0 G + v0)), (1, .int v1), (2, .int v2), (3, .int v3)] [] w 0 0 (oI r.1) r.2 := by
  induction n with
  | zero => intro v0 v1 v2 v3 w r h; exact nomatch (show (none : Option (Int32 × zW)) = some r from h)
  | succ n ih => intro v0 v1 v2 v3 w r h; exact b_Model_check_25_ok G F (l_Model_check_25 F n) ih v0 v1 v2 v3 w r h
def b_Model_check_22 (F : Nat) (v0 : Nat) (v1 : Int32) (s0 : Int32) (w : zW) : Option (Int32 × zW) := l_Model_check_25 F F v0 v1 s0 (0 : Int32) w
set_option maxRecDepth 100000 in
set_option maxHeartbeats 4000000 in
theorem b_Model_check_22_ok (G : zG) (F : Nat) (v0 : Nat) (v1 : Int32) (s0 : Int32) (w : zW) (r : (Int32 × zW)) (h : b_Model_check_22 F v0 v1 s0 w = some r) : zV G m_Model_check 22 [(0, .ref (z0 G + v0)), (1, .int v1)] [.int s0] w 0 0 (oI r.1) r.2 := by
  unfold b_Model_check_22 at h
  refine V_istore_n (i := 2) d_Model_check_22 rfl (by decide) rfl ?_
  refine V_iconst (v := 0) d_Model_check_23 (by decide) ?_
  refine V_istore_n (i := 3) d_Model_check_24 rfl (by decide) rfl ?_
  refine V_lv [2, 3, 1, 0] rfl ?_
  exact l_Model_check_25_ok G F F v0 v1 s0 (0 : Int32) w _ h
def b_Model_check_0 (F : Nat) (v0 : Nat) (w : zW) : Option (Int32 × zW) := (putI w v0 9 0 (0 : Int32)).bind fun w2 => (zobj w2 v0 9).bind fun _ => (f_Model_open F v0 w2).bind fun r6 => if r6.1 = 0 then ((getI r6.2 v0 9 17).bind fun x15 => b_Model_check_22 F v0 r6.1 x15 r6.2) else (b_Model_check_22 F v0 r6.1 (0 : Int32) r6.2)
set_option maxRecDepth 100000 in
set_option maxHeartbeats 4000000 in
theorem b_Model_check_0_ok (G : zG) (F : Nat) (v0 : Nat) (w : zW) (r : (Int32 × zW)) (h : b_Model_check_0 F v0 w = some r) : zV G m_Model_check 0 [(0, .ref (z0 G + v0))] [] w 0 0 (oI r.1) r.2 := by
  unfold b_Model_check_0 at h
  refine V_aload_n (i := 0) d_Model_check_0 rfl 0 rfl ?_
  refine V_iconst (v := 0) d_Model_check_1 (by decide) ?_
  obtain ⟨w2, e2, h⟩ := ob h
  refine V_putI (ci := 9) (k := 0) t_Model d_Model_check_2 e2 rfl (by decide) in_Model k882 ty_Model nm_Model rfl (Or.inl rfl) ?_
  refine V_aload_n (i := 0) d_Model_check_5 rfl 0 rfl ?_
  obtain ⟨_, eo6, h⟩ := ob h
  obtain ⟨r6, e6, h⟩ := ob h
  refine V_call (v := some (.int r6.1)) (st := []) (inv_V (N := m_Model_open) (As := []) (ci := 9) d_Model_check_6 eo6 rfl k1130 k1132 sel_Model_open kc_Model_open y_Model_open) ⟨Or.inl kc_Model_open, k10, by decide, by decide⟩ (Nat.le_of_ble_eq_true rfl) (by decide) (by decide) (c_Model_open G F v0 w2 r6 e6) ?_
  refine V_istore_n (i := 1) d_Model_check_9 rfl (by decide) rfl ?_
  refine V_iload_n (i := 1) d_Model_check_10 rfl 0 rfl ?_
  refine V_if_ne (tgt := 21) d_Model_check_11 (by decide) (fun c11 => ?_) (fun c11 => ?_)
  · rw [if_neg c11] at h
    refine V_iconst (v := 0) d_Model_check_21 (by decide) ?_
    refine V_lv [1, 0] rfl ?_
    exact b_Model_check_22_ok G F v0 r6.1 (0 : Int32) r6.2 _ h
  · rw [if_pos c11] at h
    refine V_aload_n (i := 0) d_Model_check_14 rfl 1 rfl ?_
    obtain ⟨x15, e15, h⟩ := ob h
    refine V_getI (ci := 9) (k := 17) d_Model_check_15 e15 rfl (by decide) in_Model k899 ?_
    refine V_goto (tgt := 22) d_Model_check_18 (by decide) ?_
    refine V_lv [1, 0] rfl ?_
    exact b_Model_check_22_ok G F v0 r6.1 x15 r6.2 _ h
def f_Model_check (F : Nat) (v0 : Nat) (w : zW) : Option (Int32 × zW) := b_Model_check_0 F v0 w
theorem c_Model_check (G : zG) (F : Nat) (v0 : Nat) (w : zW) (r : (Int32 × zW)) (h : f_Model_check F v0 w = some r) : zCT G m_Model_check [.ref (z0 G + v0)] w (oI r.1) r.2 := zCT.ofV (by decide +kernel) (Or.inl ⟨kc_Model_check, rfl⟩) (Nat.le_of_ble_eq_true rfl) (b_Model_check_0_ok G F v0 w r h)

/-! ZipArrayModel.load(I)I -/
def m_Model_load : zM := (⟨R_Model, "load", "(I)I"⟩, prog_11_method_59_code, 3, (some .int), [], { frames := 6, cells := 0, slots := 0, locals := 146 })
theorem kc_Model_load : Cond.code (mY m_Model_load) (mC m_Model_load) (mL m_Model_load) (mT m_Model_load) ∈ zTb := tb_at 1221 (by decide +kernel) rfl
theorem y_Model_load : (mY m_Model_load).cls ≠ "java/lang/invoke/MethodHandle" ∧ (mY m_Model_load).cls ≠ "java/lang/invoke/VarHandle" ∧ (parseMethodDescriptor (mY m_Model_load).desc).map (fun d => d.parameters.length) = some 1 := by decide +kernel
theorem d_Model_load_0 : decode (mC m_Model_load) 0 = .ok (.aload_n 0, 1) := by decide +kernel
theorem d_Model_load_1 : decode (mC m_Model_load) 1 = .ok (.aload_n 0, 1) := by decide +kernel
theorem d_Model_load_2 : decode (mC m_Model_load) 2 = .ok (.invokevirtual 281, 3) := by decide +kernel
theorem d_Model_load_5 : decode (mC m_Model_load) 5 = .ok (.ifCond .le 7, 3) := by decide +kernel
theorem d_Model_load_8 : decode (mC m_Model_load) 8 = .ok (.iconst 1, 1) := by decide +kernel
theorem d_Model_load_9 : decode (mC m_Model_load) 9 = .ok (.goto 4, 3) := by decide +kernel
theorem d_Model_load_12 : decode (mC m_Model_load) 12 = .ok (.iconst 0, 1) := by decide +kernel
theorem d_Model_load_13 : decode (mC m_Model_load) 13 = .ok (.putfield 70, 3) := by decide +kernel
theorem d_Model_load_16 : decode (mC m_Model_load) 16 = .ok (.aload_n 0, 1) := by decide +kernel
theorem d_Model_load_17 : decode (mC m_Model_load) 17 = .ok (.getfield 70, 3) := by decide +kernel
theorem d_Model_load_20 : decode (mC m_Model_load) 20 = .ok (.ifCond .le 7, 3) := by decide +kernel
theorem d_Model_load_23 : decode (mC m_Model_load) 23 = .ok (.iconst (-1), 1) := by decide +kernel
theorem d_Model_load_24 : decode (mC m_Model_load) 24 = .ok (.goto 12, 3) := by decide +kernel
theorem d_Model_load_27 : decode (mC m_Model_load) 27 = .ok (.aload_n 0, 1) := by decide +kernel
theorem d_Model_load_28 : decode (mC m_Model_load) 28 = .ok (.iload_n 1, 1) := by decide +kernel
theorem d_Model_load_29 : decode (mC m_Model_load) 29 = .ok (.aload_n 0, 1) := by decide +kernel
theorem d_Model_load_30 : decode (mC m_Model_load) 30 = .ok (.getfield 205, 3) := by decide +kernel
theorem d_Model_load_33 : decode (mC m_Model_load) 33 = .ok (.invokevirtual 249, 3) := by decide +kernel
theorem d_Model_load_36 : decode (mC m_Model_load) 36 = .ok (.istore_n 2, 1) := by decide +kernel
theorem d_Model_load_37 : decode (mC m_Model_load) 37 = .ok (.aload_n 0, 1) := by decide +kernel
theorem d_Model_load_38 : decode (mC m_Model_load) 38 = .ok (.getfield 70, 3) := by decide +kernel
theorem d_Model_load_41 : decode (mC m_Model_load) 41 = .ok (.ifCond .ne 28, 3) := by decide +kernel
theorem d_Model_load_44 : decode (mC m_Model_load) 44 = .ok (.aload_n 0, 1) := by decide +kernel
theorem d_Model_load_45 : decode (mC m_Model_load) 45 = .ok (.iload_n 2, 1) := by decide +kernel
theorem d_Model_load_46 : decode (mC m_Model_load) 46 = .ok (.ifCond .ge 7, 3) := by decide +kernel
theorem d_Model_load_49 : decode (mC m_Model_load) 49 = .ok (.iconst 2, 1) := by decide +kernel
theorem d_Model_load_50 : decode (mC m_Model_load) 50 = .ok (.goto 16, 3) := by decide +kernel
theorem d_Model_load_53 : decode (mC m_Model_load) 53 = .ok (.aload_n 0, 1) := by decide +kernel
theorem d_Model_load_54 : decode (mC m_Model_load) 54 = .ok (.iload_n 2, 1) := by decide +kernel
theorem d_Model_load_55 : decode (mC m_Model_load) 55 = .ok (.invokevirtual 284, 3) := by decide +kernel
theorem d_Model_load_58 : decode (mC m_Model_load) 58 = .ok (.ifCond .le 7, 3) := by decide +kernel
theorem d_Model_load_61 : decode (mC m_Model_load) 61 = .ok (.iconst 3, 1) := by decide +kernel
theorem d_Model_load_62 : decode (mC m_Model_load) 62 = .ok (.goto 4, 3) := by decide +kernel
theorem d_Model_load_65 : decode (mC m_Model_load) 65 = .ok (.iconst 0, 1) := by decide +kernel
theorem d_Model_load_66 : decode (mC m_Model_load) 66 = .ok (.putfield 70, 3) := by decide +kernel
theorem d_Model_load_69 : decode (mC m_Model_load) 69 = .ok (.aload_n 0, 1) := by decide +kernel
theorem d_Model_load_70 : decode (mC m_Model_load) 70 = .ok (.getfield 70, 3) := by decide +kernel
theorem d_Model_load_73 : decode (mC m_Model_load) 73 = .ok (.ifCond .le 7, 3) := by decide +kernel
theorem d_Model_load_76 : decode (mC m_Model_load) 76 = .ok (.iconst 0, 1) := by decide +kernel
theorem d_Model_load_77 : decode (mC m_Model_load) 77 = .ok (.goto 7, 3) := by decide +kernel
theorem d_Model_load_80 : decode (mC m_Model_load) 80 = .ok (.aload_n 0, 1) := by decide +kernel
theorem d_Model_load_81 : decode (mC m_Model_load) 81 = .ok (.invokevirtual 141, 3) := by decide +kernel
theorem d_Model_load_84 : decode (mC m_Model_load) 84 = .ok (.ireturn, 1) := by decide +kernel
def b_Model_load_69 (F : Nat) (v0 : Nat) (w : zW) : Option (Int32 × zW) := (getI w v0 9 0).bind fun x70 => if x70 ≤ 0 then ((zobj w v0 9).bind fun _ => (f_Model_takeContent F v0 w).bind fun r81 => some (r81.1, r81.2)) else (some ((0 : Int32), w))
set_option maxRecDepth 100000 in
set_option maxHeartbeats 4000000 in
theorem b_Model_load_69_ok (G : zG) (F : Nat) (v0 : Nat) (w : zW) (r : (Int32 × zW)) (h : b_Model_load_69 F v0 w = some r) : zV G m_Model_load 69 [(0, .ref (z0 G + v0))] [] w 0 0 (oI r.1) r.2 := by
  unfold b_Model_load_69 at h
  refine V_aload_n (i := 0) d_Model_load_69 rfl 0 rfl ?_
  obtain ⟨x70, e70, h⟩ := ob h
  refine V_getI (ci := 9) (k := 0) d_Model_load_70 e70 rfl (by decide) in_Model k882 ?_
  refine V_if_le (tgt := 80) d_Model_load_73 (by decide) (fun c73 => ?_) (fun c73 => ?_)
  · rw [if_pos c73] at h
    refine V_aload_n (i := 0) d_Model_load_80 rfl 0 rfl ?_
    obtain ⟨_, eo81, h⟩ := ob h
    obtain ⟨r81, e81, h⟩ := ob h
    refine V_call (v := some (.int r81.1)) (st := []) (inv_V (N := m_Model_takeContent) (As := []) (ci := 9) d_Model_load_81 eo81 rfl k1077 k1079 sel_Model_takeContent kc_Model_takeContent y_Model_takeContent) ⟨Or.inl kc_Model_takeContent, k10, by decide, by decide⟩ (Nat.le_of_ble_eq_true rfl) (by decide) (by decide) (c_Model_takeContent G F v0 w r81 e81) ?_
    obtain rfl := Option.some.inj h
    exact V_iret rfl (by decide) (by decide) d_Model_load_84
  · rw [if_neg c73] at h
    refine V_iconst (v := 0) d_Model_load_76 (by decide) ?_
    refine V_goto (tgt := 84) d_Model_load_77 (by decide) ?_
    obtain rfl := Option.some.inj h
    exact V_iret rfl (by decide) (by decide) d_Model_load_84
def b_Model_load_66 (F : Nat) (v0 : Nat) (s0 : Nat) (s1 : Int32) (w : zW) : Option (Int32 × zW) := (putI w s0 9 0 s1).bind fun w66 => b_Model_load_69 F v0 w66
set_option maxRecDepth 100000 in
set_option maxHeartbeats 4000000 in
theorem b_Model_load_66_ok (G : zG) (F : Nat) (v0 : Nat) (s0 : Nat) (s1 : Int32) (w : zW) (r : (Int32 × zW)) (h : b_Model_load_66 F v0 s0 s1 w = some r) : zV G m_Model_load 66 [(0, .ref (z0 G + v0))] [.int s1, .ref (z0 G + s0)] w 0 0 (oI r.1) r.2 := by
  unfold b_Model_load_66 at h
  obtain ⟨w66, e66, h⟩ := ob h
  refine V_putI (ci := 9) (k := 0) t_Model d_Model_load_66 e66 rfl (by decide) in_Model k882 ty_Model nm_Model rfl (Or.inl rfl) ?_
  exact b_Model_load_69_ok G F v0 w66 _ h
def b_Model_load_36 (F : Nat) (v0 : Nat) (s0 : Int32) (w : zW) : Option (Int32 × zW) := (getI w v0 9 0).bind fun x38 => if x38 = 0 then (if 0 ≤ s0 then ((zobj w v0 9).bind fun _ => (f_Model_fault F v0 s0 w).bind fun r55 => if r55.1 ≤ 0 then (b_Model_load_66 F v0 v0 (0 : Int32) r55.2) else (b_Model_load_66 F v0 v0 (3 : Int32) r55.2)) else (b_Model_load_66 F v0 v0 (2 : Int32) w)) else (b_Model_load_69 F v0 w)
set_option maxRecDepth 100000 in
set_option maxHeartbeats 4000000 in
theorem b_Model_load_36_ok (G : zG) (F : Nat) (v0 : Nat) (s0 : Int32) (w : zW) (r : (Int32 × zW)) (h : b_Model_load_36 F v0 s0 w = some r) : zV G m_Model_load 36 [(0, .ref (z0 G + v0))] [.int s0] w 0 0 (oI r.1) r.2 := by
  unfold b_Model_load_36 at h
  refine V_istore_n (i := 2) d_Model_load_36 rfl (by decide) rfl ?_
  refine V_aload_n (i := 0) d_Model_load_37 rfl 1 rfl ?_
  obtain ⟨x38, e38, h⟩ := ob h
  refine V_getI (ci := 9) (k := 0) d_Model_load_38 e38 rfl (by decide) in_Model k882 ?_
  refine V_if_ne (tgt := 69) d_Model_load_41 (by decide) (fun c41 => ?_) (fun c41 => ?_)
  · rw [if_neg c41] at h
    refine V_lv [1] rfl ?_
    exact b_Model_load_69_ok G F v0 w _ h
  · rw [if_pos c41] at h
    refine V_aload_n (i := 0) d_Model_load_44 rfl 1 rfl ?_
    refine V_iload_n (i := 2) d_Model_load_45 rfl 0 rfl ?_
    refine V_if_ge (tgt := 53) d_Model_load_46 (by decide) (fun c46 => ?_) (fun c46 => ?_)
    · rw [if_pos c46] at h
      refine V_aload_n (i := 0) d_Model_load_53 rfl 1 rfl ?_
      refine V_iload_n (i := 2) d_Model_load_54 rfl 0 rfl ?_
      obtain ⟨_, eo55, h⟩ := ob h
      obtain ⟨r55, e55, h⟩ := ob h
      refine V_call (v := some (.int r55.1)) (st := [.ref (z0 G + v0)]) (inv_V (N := m_Model_fault) (As := [.int s0]) (ci := 9) d_Model_load_55 eo55 rfl k1192 k1194 sel_Model_fault kc_Model_fault y_Model_fault) ⟨Or.inl kc_Model_fault, k10, by decide, by decide⟩ (Nat.le_of_ble_eq_true rfl) (by decide) (by decide) (c_Model_fault G F v0 s0 w r55 e55) ?_
      refine V_if_le (tgt := 65) d_Model_load_58 (by decide) (fun c58 => ?_) (fun c58 => ?_)
      · rw [if_pos c58] at h
        refine V_iconst (v := 0) d_Model_load_65 (by decide) ?_
        refine V_lv [1] rfl ?_
        exact b_Model_load_66_ok G F v0 v0 (0 : Int32) r55.2 _ h
      · rw [if_neg c58] at h
        refine V_iconst (v := 3) d_Model_load_61 (by decide) ?_
        refine V_goto (tgt := 66) d_Model_load_62 (by decide) ?_
        refine V_lv [1] rfl ?_
        exact b_Model_load_66_ok G F v0 v0 (3 : Int32) r55.2 _ h
    · rw [if_neg c46] at h
      refine V_iconst (v := 2) d_Model_load_49 (by decide) ?_
      refine V_goto (tgt := 66) d_Model_load_50 (by decide) ?_
      refine V_lv [1] rfl ?_
      exact b_Model_load_66_ok G F v0 v0 (2 : Int32) w _ h
def b_Model_load_13 (F : Nat) (v0 : Nat) (v1 : Int32) (s0 : Nat) (s1 : Int32) (w : zW) : Option (Int32 × zW) := (putI w s0 9 0 s1).bind fun w13 => (getI w13 v0 9 0).bind fun x17 => if x17 ≤ 0 then ((getI w13 v0 9 17).bind fun x30 => (zobj w13 v0 9).bind fun _ => (f_Model_find F v0 v1 x30 w13).bind fun r33 => b_Model_load_36 F v0 r33.1 r33.2) else (b_Model_load_36 F v0 (-1 : Int32) w13)
set_option maxRecDepth 100000 in
set_option maxHeartbeats 4000000 in
theorem b_Model_load_13_ok (G : zG) (F : Nat) (v0 : Nat) (v1 : Int32) (s0 : Nat) (s1 : Int32) (w : zW) (r : (Int32 × zW)) (h : b_Model_load_13 F v0 v1 s0 s1 w = some r) : zV G m_Model_load 13 [(0, .ref (z0 G + v0)), (1, .int v1)] [.int s1, .ref (z0 G + s0)] w 0 0 (oI r.1) r.2 := by
  unfold b_Model_load_13 at h
  obtain ⟨w13, e13, h⟩ := ob h
  refine V_putI (ci := 9) (k := 0) t_Model d_Model_load_13 e13 rfl (by decide) in_Model k882 ty_Model nm_Model rfl (Or.inl rfl) ?_
  refine V_aload_n (i := 0) d_Model_load_16 rfl 0 rfl ?_
  obtain ⟨x17, e17, h⟩ := ob h
  refine V_getI (ci := 9) (k := 0) d_Model_load_17 e17 rfl (by decide) in_Model k882 ?_
  refine V_if_le (tgt := 27) d_Model_load_20 (by decide) (fun c20 => ?_) (fun c20 => ?_)
  · rw [if_pos c20] at h
    refine V_aload_n (i := 0) d_Model_load_27 rfl 0 rfl ?_
    refine V_iload_n (i := 1) d_Model_load_28 rfl 1 rfl ?_
    refine V_aload_n (i := 0) d_Model_load_29 rfl 0 rfl ?_
    obtain ⟨x30, e30, h⟩ := ob h
    refine V_getI (ci := 9) (k := 17) d_Model_load_30 e30 rfl (by decide) in_Model k899 ?_
    obtain ⟨_, eo33, h⟩ := ob h
    obtain ⟨r33, e33, h⟩ := ob h
    refine V_call (v := some (.int r33.1)) (st := []) (inv_V (N := m_Model_find) (As := [.int v1, .int x30]) (ci := 9) d_Model_load_33 eo33 rfl k1188 k1190 sel_Model_find kc_Model_find y_Model_find) ⟨Or.inl kc_Model_find, k10, by decide, by decide⟩ (Nat.le_of_ble_eq_true rfl) (by decide) (by decide) (c_Model_find G F v0 v1 x30 w13 r33 e33) ?_
    refine V_lv [0] rfl ?_
    exact b_Model_load_36_ok G F v0 r33.1 r33.2 _ h
  · rw [if_neg c20] at h
    refine V_iconst (v := -1) d_Model_load_23 (by decide) ?_
    refine V_goto (tgt := 36) d_Model_load_24 (by decide) ?_
    refine V_lv [0] rfl ?_
    exact b_Model_load_36_ok G F v0 (-1 : Int32) w13 _ h
def b_Model_load_0 (F : Nat) (v0 : Nat) (v1 : Int32) (w : zW) : Option (Int32 × zW) := (zobj w v0 9).bind fun _ => (f_Model_open F v0 w).bind fun r2 => if r2.1 ≤ 0 then (b_Model_load_13 F v0 v1 v0 (0 : Int32) r2.2) else (b_Model_load_13 F v0 v1 v0 (1 : Int32) r2.2)
set_option maxRecDepth 100000 in
set_option maxHeartbeats 4000000 in
theorem b_Model_load_0_ok (G : zG) (F : Nat) (v0 : Nat) (v1 : Int32) (w : zW) (r : (Int32 × zW)) (h : b_Model_load_0 F v0 v1 w = some r) : zV G m_Model_load 0 [(0, .ref (z0 G + v0)), (1, .int v1)] [] w 0 0 (oI r.1) r.2 := by
  unfold b_Model_load_0 at h
  refine V_aload_n (i := 0) d_Model_load_0 rfl 0 rfl ?_
  refine V_aload_n (i := 0) d_Model_load_1 rfl 0 rfl ?_
  obtain ⟨_, eo2, h⟩ := ob h
  obtain ⟨r2, e2, h⟩ := ob h
  refine V_call (v := some (.int r2.1)) (st := [.ref (z0 G + v0)]) (inv_V (N := m_Model_open) (As := []) (ci := 9) d_Model_load_2 eo2 rfl k1130 k1132 sel_Model_open kc_Model_open y_Model_open) ⟨Or.inl kc_Model_open, k10, by decide, by decide⟩ (Nat.le_of_ble_eq_true rfl) (by decide) (by decide) (c_Model_open G F v0 w r2 e2) ?_
  refine V_if_le (tgt := 12) d_Model_load_5 (by decide) (fun c5 => ?_) (fun c5 => ?_)
  · rw [if_pos c5] at h
    refine V_iconst (v := 0) d_Model_load_12 (by decide) ?_
    exact b_Model_load_13_ok G F v0 v1 v0 (0 : Int32) r2.2 _ h
  · rw [if_neg c5] at h
    refine V_iconst (v := 1) d_Model_load_8 (by decide) ?_
    refine V_goto (tgt := 13) d_Model_load_9 (by decide) ?_
    exact b_Model_load_13_ok G F v0 v1 v0 (1 : Int32) r2.2 _ h
def f_Model_load (F : Nat) (v0 : Nat) (v1 : Int32) (w : zW) : Option (Int32 × zW) := b_Model_load_0 F v0 v1 w
theorem c_Model_load (G : zG) (F : Nat) (v0 : Nat) (v1 : Int32) (w : zW) (r : (Int32 × zW)) (h : f_Model_load F v0 v1 w = some r) : zCT G m_Model_load [.ref (z0 G + v0), .int v1] w (oI r.1) r.2 := zCT.ofV (by decide +kernel) (Or.inl ⟨kc_Model_load, rfl⟩) (Nat.le_of_ble_eq_true rfl) (b_Model_load_0_ok G F v0 v1 w r h)

/-! ZipArrayModel.count()I -/
def m_Model_count : zM := (⟨R_Model, "count", "()I"⟩, prog_11_method_60_code, 1, (some .int), [], { frames := 4, cells := 0, slots := 0, locals := 108 })
theorem kc_Model_count : Cond.code (mY m_Model_count) (mC m_Model_count) (mL m_Model_count) (mT m_Model_count) ∈ zTb := tb_at 1225 (by decide +kernel) rfl
theorem y_Model_count : (mY m_Model_count).cls ≠ "java/lang/invoke/MethodHandle" ∧ (mY m_Model_count).cls ≠ "java/lang/invoke/VarHandle" ∧ (parseMethodDescriptor (mY m_Model_count).desc).map (fun d => d.parameters.length) = some 0 := by decide +kernel
theorem d_Model_count_0 : decode (mC m_Model_count) 0 = .ok (.aload_n 0, 1) := by decide +kernel
theorem d_Model_count_1 : decode (mC m_Model_count) 1 = .ok (.aload_n 0, 1) := by decide +kernel
theorem d_Model_count_2 : decode (mC m_Model_count) 2 = .ok (.invokevirtual 281, 3) := by decide +kernel
theorem d_Model_count_5 : decode (mC m_Model_count) 5 = .ok (.ifCond .le 7, 3) := by decide +kernel
theorem d_Model_count_8 : decode (mC m_Model_count) 8 = .ok (.iconst 1, 1) := by decide +kernel
theorem d_Model_count_9 : decode (mC m_Model_count) 9 = .ok (.goto 4, 3) := by decide +kernel
theorem d_Model_count_12 : decode (mC m_Model_count) 12 = .ok (.iconst 0, 1) := by decide +kernel
theorem d_Model_count_13 : decode (mC m_Model_count) 13 = .ok (.putfield 70, 3) := by decide +kernel
theorem d_Model_count_16 : decode (mC m_Model_count) 16 = .ok (.aload_n 0, 1) := by decide +kernel
theorem d_Model_count_17 : decode (mC m_Model_count) 17 = .ok (.getfield 70, 3) := by decide +kernel
theorem d_Model_count_20 : decode (mC m_Model_count) 20 = .ok (.ifCond .le 7, 3) := by decide +kernel
theorem d_Model_count_23 : decode (mC m_Model_count) 23 = .ok (.iconst 0, 1) := by decide +kernel
theorem d_Model_count_24 : decode (mC m_Model_count) 24 = .ok (.goto 7, 3) := by decide +kernel
theorem d_Model_count_27 : decode (mC m_Model_count) 27 = .ok (.aload_n 0, 1) := by decide +kernel
theorem d_Model_count_28 : decode (mC m_Model_count) 28 = .ok (.getfield 205, 3) := by decide +kernel
theorem d_Model_count_31 : decode (mC m_Model_count) 31 = .ok (.ireturn, 1) := by decide +kernel
def b_Model_count_13 (F : Nat) (v0 : Nat) (s0 : Nat) (s1 : Int32) (w : zW) : Option (Int32 × zW) := (putI w s0 9 0 s1).bind fun w13 => (getI w13 v0 9 0).bind fun x17 => if x17 ≤ 0 then ((getI w13 v0 9 17).bind fun x28 => some (x28, w13)) else (some ((0 : Int32), w13))
set_option maxRecDepth 100000 in
set_option maxHeartbeats 4000000 in
theorem b_Model_count_13_ok (G : zG) (F : Nat) (v0 : Nat) (s0 : Nat) (s1 : Int32) (w : zW) (r : (Int32 × zW)) (h : b_Model_count_13 F v0 s0 s1 w = some r) : zV G m_Model_count 13 [(0, .ref (z0 G + v0))] [.int s1, .ref (z0 G + s0)] w 0 0 (oI r.1) r.2 := by
  unfold b_Model_count_13 at h
  obtain ⟨w13, e13, h⟩ := ob h
  refine V_putI (ci := 9) (k := 0) t_Model d_Model_count_13 e13 rfl (by decide) in_Model k882 ty_Model nm_Model rfl (Or.inl rfl) ?_
  refine V_aload_n (i := 0) d_Model_count_16 rfl 0 rfl ?_
  obtain ⟨x17, e17, h⟩ := ob h
  refine V_getI (ci := 9) (k := 0) d_Model_count_17 e17 rfl (by decide) in_Model k882 ?_
  refine V_if_le (tgt := 27) d_Model_count_20 (by decide) (fun c20 => ?_) (fun c20 => ?_)
  · rw [if_pos c20] at h
    refine V_aload_n (i := 0) d_Model_count_27 rfl 0 rfl ?_
    obtain ⟨x28, e28, h⟩ := ob h
    refine V_getI (ci := 9) (k := 17) d_Model_count_28 e28 rfl (by decide) in_Model k899 ?_
    obtain rfl := Option.some.inj h
    exact V_iret rfl (by decide) (by decide) d_Model_count_31
  · rw [if_neg c20] at h
    refine V_iconst (v := 0) d_Model_count_23 (by decide) ?_
    refine V_goto (tgt := 31) d_Model_count_24 (by decide) ?_
    obtain rfl := Option.some.inj h
    exact V_iret rfl (by decide) (by decide) d_Model_count_31
def b_Model_count_0 (F : Nat) (v0 : Nat) (w : zW) : Option (Int32 × zW) := (zobj w v0 9).bind fun _ => (f_Model_open F v0 w).bind fun r2 => if r2.1 ≤ 0 then (b_Model_count_13 F v0 v0 (0 : Int32) r2.2) else (b_Model_count_13 F v0 v0 (1 : Int32) r2.2)
set_option maxRecDepth 100000 in
set_option maxHeartbeats 4000000 in
theorem b_Model_count_0_ok (G : zG) (F : Nat) (v0 : Nat) (w : zW) (r : (Int32 × zW)) (h : b_Model_count_0 F v0 w = some r) : zV G m_Model_count 0 [(0, .ref (z0 G + v0))] [] w 0 0 (oI r.1) r.2 := by
  unfold b_Model_count_0 at h
  refine V_aload_n (i := 0) d_Model_count_0 rfl 0 rfl ?_
  refine V_aload_n (i := 0) d_Model_count_1 rfl 0 rfl ?_
  obtain ⟨_, eo2, h⟩ := ob h
  obtain ⟨r2, e2, h⟩ := ob h
  refine V_call (v := some (.int r2.1)) (st := [.ref (z0 G + v0)]) (inv_V (N := m_Model_open) (As := []) (ci := 9) d_Model_count_2 eo2 rfl k1130 k1132 sel_Model_open kc_Model_open y_Model_open) ⟨Or.inl kc_Model_open, k10, by decide, by decide⟩ (Nat.le_of_ble_eq_true rfl) (by decide) (by decide) (c_Model_open G F v0 w r2 e2) ?_
  refine V_if_le (tgt := 12) d_Model_count_5 (by decide) (fun c5 => ?_) (fun c5 => ?_)
  · rw [if_pos c5] at h
    refine V_iconst (v := 0) d_Model_count_12 (by decide) ?_
    exact b_Model_count_13_ok G F v0 v0 (0 : Int32) r2.2 _ h
  · rw [if_neg c5] at h
    refine V_iconst (v := 1) d_Model_count_8 (by decide) ?_
    refine V_goto (tgt := 13) d_Model_count_9 (by decide) ?_
    exact b_Model_count_13_ok G F v0 v0 (1 : Int32) r2.2 _ h
def f_Model_count (F : Nat) (v0 : Nat) (w : zW) : Option (Int32 × zW) := b_Model_count_0 F v0 w
theorem c_Model_count (G : zG) (F : Nat) (v0 : Nat) (w : zW) (r : (Int32 × zW)) (h : f_Model_count F v0 w = some r) : zCT G m_Model_count [.ref (z0 G + v0)] w (oI r.1) r.2 := zCT.ofV (by decide +kernel) (Or.inl ⟨kc_Model_count, rfl⟩) (Nat.le_of_ble_eq_true rfl) (b_Model_count_0_ok G F v0 w r h)

/-! ZipArrayModel.about(II)I -/
def m_Model_about : zM := (⟨R_Model, "about", "(II)I"⟩, prog_11_method_61_code, 3, (some .int), [], { frames := 4, cells := 0, slots := 0, locals := 108 })
theorem k1230 : Cond.constantLong R_Model 287 6 ∈ zTb := tb_at 1230 (by decide +kernel) rfl
theorem kc_Model_about : Cond.code (mY m_Model_about) (mC m_Model_about) (mL m_Model_about) (mT m_Model_about) ∈ zTb := tb_at 1229 (by decide +kernel) rfl
theorem y_Model_about : (mY m_Model_about).cls ≠ "java/lang/invoke/MethodHandle" ∧ (mY m_Model_about).cls ≠ "java/lang/invoke/VarHandle" ∧ (parseMethodDescriptor (mY m_Model_about).desc).map (fun d => d.parameters.length) = some 2 := by decide +kernel
theorem d_Model_about_0 : decode (mC m_Model_about) 0 = .ok (.aload_n 0, 1) := by decide +kernel
theorem d_Model_about_1 : decode (mC m_Model_about) 1 = .ok (.aload_n 0, 1) := by decide +kernel
theorem d_Model_about_2 : decode (mC m_Model_about) 2 = .ok (.invokevirtual 281, 3) := by decide +kernel
theorem d_Model_about_5 : decode (mC m_Model_about) 5 = .ok (.ifCond .le 7, 3) := by decide +kernel
theorem d_Model_about_8 : decode (mC m_Model_about) 8 = .ok (.iconst 1, 1) := by decide +kernel
theorem d_Model_about_9 : decode (mC m_Model_about) 9 = .ok (.goto 40, 3) := by decide +kernel
theorem d_Model_about_12 : decode (mC m_Model_about) 12 = .ok (.iload_n 1, 1) := by decide +kernel
theorem d_Model_about_13 : decode (mC m_Model_about) 13 = .ok (.i2l, 1) := by decide +kernel
theorem d_Model_about_14 : decode (mC m_Model_about) 14 = .ok (.lconst 0, 1) := by decide +kernel
theorem d_Model_about_15 : decode (mC m_Model_about) 15 = .ok (.aload_n 0, 1) := by decide +kernel
theorem d_Model_about_16 : decode (mC m_Model_about) 16 = .ok (.getfield 205, 3) := by decide +kernel
theorem d_Model_about_19 : decode (mC m_Model_about) 19 = .ok (.iconst 1, 1) := by decide +kernel
theorem d_Model_about_20 : decode (mC m_Model_about) 20 = .ok (.isub, 1) := by decide +kernel
theorem d_Model_about_21 : decode (mC m_Model_about) 21 = .ok (.i2l, 1) := by decide +kernel
theorem d_Model_about_22 : decode (mC m_Model_about) 22 = .ok (.invokestatic 87, 3) := by decide +kernel
theorem d_Model_about_25 : decode (mC m_Model_about) 25 = .ok (.ifCond .ne 7, 3) := by decide +kernel
theorem d_Model_about_28 : decode (mC m_Model_about) 28 = .ok (.iconst 2, 1) := by decide +kernel
theorem d_Model_about_29 : decode (mC m_Model_about) 29 = .ok (.goto 20, 3) := by decide +kernel
theorem d_Model_about_32 : decode (mC m_Model_about) 32 = .ok (.iload_n 2, 1) := by decide +kernel
theorem d_Model_about_33 : decode (mC m_Model_about) 33 = .ok (.i2l, 1) := by decide +kernel
theorem d_Model_about_34 : decode (mC m_Model_about) 34 = .ok (.lconst 0, 1) := by decide +kernel
theorem d_Model_about_35 : decode (mC m_Model_about) 35 = .ok (.ldc2_w 287, 3) := by decide +kernel
theorem d_Model_about_38 : decode (mC m_Model_about) 38 = .ok (.invokestatic 87, 3) := by decide +kernel
theorem d_Model_about_41 : decode (mC m_Model_about) 41 = .ok (.ifCond .ne 7, 3) := by decide +kernel
theorem d_Model_about_44 : decode (mC m_Model_about) 44 = .ok (.iconst 3, 1) := by decide +kernel
theorem d_Model_about_45 : decode (mC m_Model_about) 45 = .ok (.goto 4, 3) := by decide +kernel
theorem d_Model_about_48 : decode (mC m_Model_about) 48 = .ok (.iconst 0, 1) := by decide +kernel
theorem d_Model_about_49 : decode (mC m_Model_about) 49 = .ok (.putfield 70, 3) := by decide +kernel
theorem d_Model_about_52 : decode (mC m_Model_about) 52 = .ok (.aload_n 0, 1) := by decide +kernel
theorem d_Model_about_53 : decode (mC m_Model_about) 53 = .ok (.getfield 70, 3) := by decide +kernel
theorem d_Model_about_56 : decode (mC m_Model_about) 56 = .ok (.ifCond .le 5, 3) := by decide +kernel
theorem d_Model_about_59 : decode (mC m_Model_about) 59 = .ok (.iconst 0, 1) := by decide +kernel
theorem d_Model_about_60 : decode (mC m_Model_about) 60 = .ok (.ireturn, 1) := by decide +kernel
theorem d_Model_about_61 : decode (mC m_Model_about) 61 = .ok (.iload_n 2, 1) := by decide +kernel
theorem d_Model_about_62 : decode (mC m_Model_about) 62 = .ok (.tableswitch 80 0 5 #[38, 45, 52, 59, 66, 73], 38) := by decide +kernel
theorem d_Model_about_100 : decode (mC m_Model_about) 100 = .ok (.aload_n 0, 1) := by decide +kernel
theorem d_Model_about_101 : decode (mC m_Model_about) 101 = .ok (.getfield 34, 3) := by decide +kernel
theorem d_Model_about_104 : decode (mC m_Model_about) 104 = .ok (.iload_n 1, 1) := by decide +kernel
theorem d_Model_about_105 : decode (mC m_Model_about) 105 = .ok (.iaload, 1) := by decide +kernel
theorem d_Model_about_106 : decode (mC m_Model_about) 106 = .ok (.ireturn, 1) := by decide +kernel
theorem d_Model_about_107 : decode (mC m_Model_about) 107 = .ok (.aload_n 0, 1) := by decide +kernel
theorem d_Model_about_108 : decode (mC m_Model_about) 108 = .ok (.getfield 37, 3) := by decide +kernel
theorem d_Model_about_111 : decode (mC m_Model_about) 111 = .ok (.iload_n 1, 1) := by decide +kernel
theorem d_Model_about_112 : decode (mC m_Model_about) 112 = .ok (.iaload, 1) := by decide +kernel
theorem d_Model_about_113 : decode (mC m_Model_about) 113 = .ok (.ireturn, 1) := by decide +kernel
theorem d_Model_about_114 : decode (mC m_Model_about) 114 = .ok (.aload_n 0, 1) := by decide +kernel
theorem d_Model_about_115 : decode (mC m_Model_about) 115 = .ok (.getfield 40, 3) := by decide +kernel
theorem d_Model_about_118 : decode (mC m_Model_about) 118 = .ok (.iload_n 1, 1) := by decide +kernel
theorem d_Model_about_119 : decode (mC m_Model_about) 119 = .ok (.iaload, 1) := by decide +kernel
theorem d_Model_about_120 : decode (mC m_Model_about) 120 = .ok (.ireturn, 1) := by decide +kernel
theorem d_Model_about_121 : decode (mC m_Model_about) 121 = .ok (.aload_n 0, 1) := by decide +kernel
theorem d_Model_about_122 : decode (mC m_Model_about) 122 = .ok (.getfield 43, 3) := by decide +kernel
theorem d_Model_about_125 : decode (mC m_Model_about) 125 = .ok (.iload_n 1, 1) := by decide +kernel
theorem d_Model_about_126 : decode (mC m_Model_about) 126 = .ok (.iaload, 1) := by decide +kernel
theorem d_Model_about_127 : decode (mC m_Model_about) 127 = .ok (.ireturn, 1) := by decide +kernel
theorem d_Model_about_128 : decode (mC m_Model_about) 128 = .ok (.aload_n 0, 1) := by decide +kernel
theorem d_Model_about_129 : decode (mC m_Model_about) 129 = .ok (.getfield 46, 3) := by decide +kernel
theorem d_Model_about_132 : decode (mC m_Model_about) 132 = .ok (.iload_n 1, 1) := by decide +kernel
theorem d_Model_about_133 : decode (mC m_Model_about) 133 = .ok (.iaload, 1) := by decide +kernel
theorem d_Model_about_134 : decode (mC m_Model_about) 134 = .ok (.ireturn, 1) := by decide +kernel
theorem d_Model_about_135 : decode (mC m_Model_about) 135 = .ok (.aload_n 0, 1) := by decide +kernel
theorem d_Model_about_136 : decode (mC m_Model_about) 136 = .ok (.getfield 49, 3) := by decide +kernel
theorem d_Model_about_139 : decode (mC m_Model_about) 139 = .ok (.iload_n 1, 1) := by decide +kernel
theorem d_Model_about_140 : decode (mC m_Model_about) 140 = .ok (.iaload, 1) := by decide +kernel
theorem d_Model_about_141 : decode (mC m_Model_about) 141 = .ok (.ireturn, 1) := by decide +kernel
theorem d_Model_about_142 : decode (mC m_Model_about) 142 = .ok (.aload_n 0, 1) := by decide +kernel
theorem d_Model_about_143 : decode (mC m_Model_about) 143 = .ok (.getfield 52, 3) := by decide +kernel
theorem d_Model_about_146 : decode (mC m_Model_about) 146 = .ok (.iload_n 1, 1) := by decide +kernel
theorem d_Model_about_147 : decode (mC m_Model_about) 147 = .ok (.iaload, 1) := by decide +kernel
theorem d_Model_about_148 : decode (mC m_Model_about) 148 = .ok (.ireturn, 1) := by decide +kernel
def b_Model_about_49 (F : Nat) (v0 : Nat) (v1 : Int32) (v2 : Int32) (s0 : Nat) (s1 : Int32) (w : zW) : Option (Int32 × zW) := (putI w s0 9 0 s1).bind fun w49 => (getI w49 v0 9 0).bind fun x53 => if x53 ≤ 0 then (if v2 = 0 then ((getR w49 v0 9 20).bind fun x101 => (aget w49 x101 v1).bind fun x105 => some (x105, w49)) else if v2 = 1 then ((getR w49 v0 9 21).bind fun x108 => (aget w49 x108 v1).bind fun x112 => some (x112, w49)) else if v2 = 2 then ((getR w49 v0 9 22).bind fun x115 => (aget w49 x115 v1).bind fun x119 => some (x119, w49)) else if v2 = 3 then ((getR w49 v0 9 23).bind fun x122 => (aget w49 x122 v1).bind fun x126 => some (x126, w49)) else if v2 = 4 then ((getR w49 v0 9 24).bind fun x129 => (aget w49 x129 v1).bind fun x133 => some (x133, w49)) else if v2 = 5 then ((getR w49 v0 9 25).bind fun x136 => (aget w49 x136 v1).bind fun x140 => some (x140, w49)) else ((getR w49 v0 9 26).bind fun x143 => (aget w49 x143 v1).bind fun x147 => some (x147, w49))) else (some ((0 : Int32), w49))
set_option maxRecDepth 100000 in
set_option maxHeartbeats 4000000 in
theorem b_Model_about_49_ok (G : zG) (F : Nat) (v0 : Nat) (v1 : Int32) (v2 : Int32) (s0 : Nat) (s1 : Int32) (w : zW) (r : (Int32 × zW)) (h : b_Model_about_49 F v0 v1 v2 s0 s1 w = some r) : zV G m_Model_about 49 [(0, .ref (z0 G + v0)), (1, .int v1), (2, .int v2)] [.int s1, .ref (z0 G + s0)] w 0 0 (oI r.1) r.2 := by
  unfold b_Model_about_49 at h
  obtain ⟨w49, e49, h⟩ := ob h
  refine V_putI (ci := 9) (k := 0) t_Model d_Model_about_49 e49 rfl (by decide) in_Model k882 ty_Model nm_Model rfl (Or.inl rfl) ?_
  refine V_aload_n (i := 0) d_Model_about_52 rfl 0 rfl ?_
  obtain ⟨x53, e53, h⟩ := ob h
  refine V_getI (ci := 9) (k := 0) d_Model_about_53 e53 rfl (by decide) in_Model k882 ?_
  refine V_if_le (tgt := 61) d_Model_about_56 (by decide) (fun c56 => ?_) (fun c56 => ?_)
  · rw [if_pos c56] at h
    refine V_iload_n (i := 2) d_Model_about_61 rfl 2 rfl ?_
    by_cases c62_0 : v2 = 0
    · rw [if_pos c62_0] at h
      refine V_tabIn (off := 38) (tgt := 100) d_Model_about_62 (by rw [c62_0]; decide) (by rw [c62_0]; decide) (by rw [c62_0]; rfl) (by decide) ?_
      refine V_aload_n (i := 0) d_Model_about_100 rfl 0 rfl ?_
      obtain ⟨x101, e101, h⟩ := ob h
      refine V_getR (ci := 9) (k := 20) d_Model_about_101 e101 rfl (by decide) in_Model k902 ?_
      refine V_iload_n (i := 1) d_Model_about_104 rfl 1 rfl ?_
      obtain ⟨x105, e105, h⟩ := ob h
      refine V_aget d_Model_about_105 e105 ?_
      obtain rfl := Option.some.inj h
      exact V_iret rfl (by decide) (by decide) d_Model_about_106
    rw [if_neg c62_0] at h
    by_cases c62_1 : v2 = 1
    · rw [if_pos c62_1] at h
      refine V_tabIn (off := 45) (tgt := 107) d_Model_about_62 (by rw [c62_1]; decide) (by rw [c62_1]; decide) (by rw [c62_1]; rfl) (by decide) ?_
      refine V_aload_n (i := 0) d_Model_about_107 rfl 0 rfl ?_
      obtain ⟨x108, e108, h⟩ := ob h
      refine V_getR (ci := 9) (k := 21) d_Model_about_108 e108 rfl (by decide) in_Model k903 ?_
      refine V_iload_n (i := 1) d_Model_about_111 rfl 1 rfl ?_
      obtain ⟨x112, e112, h⟩ := ob h
      refine V_aget d_Model_about_112 e112 ?_
      obtain rfl := Option.some.inj h
      exact V_iret rfl (by decide) (by decide) d_Model_about_113
    rw [if_neg c62_1] at h
    by_cases c62_2 : v2 = 2
    · rw [if_pos c62_2] at h
      refine V_tabIn (off := 52) (tgt := 114) d_Model_about_62 (by rw [c62_2]; decide) (by rw [c62_2]; decide) (by rw [c62_2]; rfl) (by decide) ?_
      refine V_aload_n (i := 0) d_Model_about_114 rfl 0 rfl ?_
      obtain ⟨x115, e115, h⟩ := ob h
      refine V_getR (ci := 9) (k := 22) d_Model_about_115 e115 rfl (by decide) in_Model k904 ?_
      refine V_iload_n (i := 1) d_Model_about_118 rfl 1 rfl ?_
      obtain ⟨x119, e119, h⟩ := ob h
      refine V_aget d_Model_about_119 e119 ?_
      obtain rfl := Option.some.inj h
      exact V_iret rfl (by decide) (by decide) d_Model_about_120
    rw [if_neg c62_2] at h
    by_cases c62_3 : v2 = 3
    · rw [if_pos c62_3] at h
      refine V_tabIn (off := 59) (tgt := 121) d_Model_about_62 (by rw [c62_3]; decide) (by rw [c62_3]; decide) (by rw [c62_3]; rfl) (by decide) ?_
      refine V_aload_n (i := 0) d_Model_about_121 rfl 0 rfl ?_
      obtain ⟨x122, e122, h⟩ := ob h
      refine V_getR (ci := 9) (k := 23) d_Model_about_122 e122 rfl (by decide) in_Model k905 ?_
      refine V_iload_n (i := 1) d_Model_about_125 rfl 1 rfl ?_
      obtain ⟨x126, e126, h⟩ := ob h
      refine V_aget d_Model_about_126 e126 ?_
      obtain rfl := Option.some.inj h
      exact V_iret rfl (by decide) (by decide) d_Model_about_127
    rw [if_neg c62_3] at h
    by_cases c62_4 : v2 = 4
    · rw [if_pos c62_4] at h
      refine V_tabIn (off := 66) (tgt := 128) d_Model_about_62 (by rw [c62_4]; decide) (by rw [c62_4]; decide) (by rw [c62_4]; rfl) (by decide) ?_
      refine V_aload_n (i := 0) d_Model_about_128 rfl 0 rfl ?_
      obtain ⟨x129, e129, h⟩ := ob h
      refine V_getR (ci := 9) (k := 24) d_Model_about_129 e129 rfl (by decide) in_Model k906 ?_
      refine V_iload_n (i := 1) d_Model_about_132 rfl 1 rfl ?_
      obtain ⟨x133, e133, h⟩ := ob h
      refine V_aget d_Model_about_133 e133 ?_
      obtain rfl := Option.some.inj h
      exact V_iret rfl (by decide) (by decide) d_Model_about_134
    rw [if_neg c62_4] at h
    by_cases c62_5 : v2 = 5
    · rw [if_pos c62_5] at h
      refine V_tabIn (off := 73) (tgt := 135) d_Model_about_62 (by rw [c62_5]; decide) (by rw [c62_5]; decide) (by rw [c62_5]; rfl) (by decide) ?_
      refine V_aload_n (i := 0) d_Model_about_135 rfl 0 rfl ?_
      obtain ⟨x136, e136, h⟩ := ob h
      refine V_getR (ci := 9) (k := 25) d_Model_about_136 e136 rfl (by decide) in_Model k907 ?_
      refine V_iload_n (i := 1) d_Model_about_139 rfl 1 rfl ?_
      obtain ⟨x140, e140, h⟩ := ob h
      refine V_aget d_Model_about_140 e140 ?_
      obtain rfl := Option.some.inj h
      exact V_iret rfl (by decide) (by decide) d_Model_about_141
    rw [if_neg c62_5] at h
    have ct62 : v2.toInt < 0 ∨ 5 < v2.toInt := by
      have := lv_neT c62_0 (a := 0) (by decide)
      have := lv_neT c62_1 (a := 1) (by decide)
      have := lv_neT c62_2 (a := 2) (by decide)
      have := lv_neT c62_3 (a := 3) (by decide)
      have := lv_neT c62_4 (a := 4) (by decide)
      have := lv_neT c62_5 (a := 5) (by decide)
      omega
    refine V_tabOut (tgt := 142) d_Model_about_62 ct62 (by decide) ?_
    refine V_aload_n (i := 0) d_Model_about_142 rfl 0 rfl ?_
    obtain ⟨x143, e143, h⟩ := ob h
    refine V_getR (ci := 9) (k := 26) d_Model_about_143 e143 rfl (by decide) in_Model k908 ?_
    refine V_iload_n (i := 1) d_Model_about_146 rfl 1 rfl ?_
    obtain ⟨x147, e147, h⟩ := ob h
    refine V_aget d_Model_about_147 e147 ?_
    obtain rfl := Option.some.inj h
    exact V_iret rfl (by decide) (by decide) d_Model_about_148
  · rw [if_neg c56] at h
    refine V_iconst (v := 0) d_Model_about_59 (by decide) ?_
    obtain rfl := Option.some.inj h
    exact V_iret rfl (by decide) (by decide) d_Model_about_60
def b_Model_about_0 (F : Nat) (v0 : Nat) (v1 : Int32) (v2 : Int32) (w : zW) : Option (Int32 × zW) := (zobj w v0 9).bind fun _ => (f_Model_open F v0 w).bind fun r2 => if r2.1 ≤ 0 then ((getI r2.2 v0 9 17).bind fun x16 => (f_Model_within F v1.toInt64 (0 : Int64) (x16 - (1 : Int32)).toInt64 r2.2).bind fun r22 => if r22.1 = 0 then (b_Model_about_49 F v0 v1 v2 v0 (2 : Int32) r22.2) else ((f_Model_within F v2.toInt64 (0 : Int64) (6 : Int64) r22.2).bind fun r38 => if r38.1 = 0 then (b_Model_about_49 F v0 v1 v2 v0 (3 : Int32) r38.2) else (b_Model_about_49 F v0 v1 v2 v0 (0 : Int32) r38.2))) else (b_Model_about_49 F v0 v1 v2 v0 (1 : Int32) r2.2)
set_option maxRecDepth 100000 in
set_option maxHeartbeats 4000000 in
theorem b_Model_about_0_ok (G : zG) (F : Nat) (v0 : Nat) (v1 : Int32) (v2 : Int32) (w : zW) (r : (Int32 × zW)) (h : b_Model_about_0 F v0 v1 v2 w = some r) : zV G m_Model_about 0 [(0, .ref (z0 G + v0)), (1, .int v1), (2, .int v2)] [] w 0 0 (oI r.1) r.2 := by
  unfold b_Model_about_0 at h
  refine V_aload_n (i := 0) d_Model_about_0 rfl 0 rfl ?_
  refine V_aload_n (i := 0) d_Model_about_1 rfl 0 rfl ?_
  obtain ⟨_, eo2, h⟩ := ob h
  obtain ⟨r2, e2, h⟩ := ob h
  refine V_call (v := some (.int r2.1)) (st := [.ref (z0 G + v0)]) (inv_V (N := m_Model_open) (As := []) (ci := 9) d_Model_about_2 eo2 rfl k1130 k1132 sel_Model_open kc_Model_open y_Model_open) ⟨Or.inl kc_Model_open, k10, by decide, by decide⟩ (Nat.le_of_ble_eq_true rfl) (by decide) (by decide) (c_Model_open G F v0 w r2 e2) ?_
  refine V_if_le (tgt := 12) d_Model_about_5 (by decide) (fun c5 => ?_) (fun c5 => ?_)
  · rw [if_pos c5] at h
    refine V_iload_n (i := 1) d_Model_about_12 rfl 1 rfl ?_
    refine V_i2l d_Model_about_13 ?_
    refine V_lconst (v := 0) d_Model_about_14 (by decide) ?_
    refine V_aload_n (i := 0) d_Model_about_15 rfl 0 rfl ?_
    obtain ⟨x16, e16, h⟩ := ob h
    refine V_getI (ci := 9) (k := 17) d_Model_about_16 e16 rfl (by decide) in_Model k899 ?_
    refine V_iconst (v := 1) d_Model_about_19 (by decide) ?_
    refine V_isub d_Model_about_20 ?_
    refine V_i2l d_Model_about_21 ?_
    obtain ⟨r22, e22, h⟩ := ob h
    refine V_call (v := some (.int r22.1)) (st := [.ref (z0 G + v0)]) (inv_S (N := m_Model_within) (As := [.long v1.toInt64, .long (0 : Int64), .long (x16 - (1 : Int32)).toInt64]) d_Model_about_22 k995 k996 k10 (Or.inl kc_Model_within) y_Model_within) ⟨Or.inl kc_Model_within, k10, by decide, by decide⟩ (Nat.le_of_ble_eq_true rfl) (by decide) (by decide) (c_Model_within G F v1.toInt64 (0 : Int64) (x16 - (1 : Int32)).toInt64 r2.2 r22 e22) ?_
    refine V_if_ne (tgt := 32) d_Model_about_25 (by decide) (fun c25 => ?_) (fun c25 => ?_)
    · rw [if_neg c25] at h
      refine V_iload_n (i := 2) d_Model_about_32 rfl 2 rfl ?_
      refine V_i2l d_Model_about_33 ?_
      refine V_lconst (v := 0) d_Model_about_34 (by decide) ?_
      refine V_ldc2 (v := 6) d_Model_about_35 k1230 ?_
      obtain ⟨r38, e38, h⟩ := ob h
      refine V_call (v := some (.int r38.1)) (st := [.ref (z0 G + v0)]) (inv_S (N := m_Model_within) (As := [.long v2.toInt64, .long (0 : Int64), .long (6 : Int64)]) d_Model_about_38 k995 k996 k10 (Or.inl kc_Model_within) y_Model_within) ⟨Or.inl kc_Model_within, k10, by decide, by decide⟩ (Nat.le_of_ble_eq_true rfl) (by decide) (by decide) (c_Model_within G F v2.toInt64 (0 : Int64) (6 : Int64) r22.2 r38 e38) ?_
      refine V_if_ne (tgt := 48) d_Model_about_41 (by decide) (fun c41 => ?_) (fun c41 => ?_)
      · rw [if_neg c41] at h
        refine V_iconst (v := 0) d_Model_about_48 (by decide) ?_
        exact b_Model_about_49_ok G F v0 v1 v2 v0 (0 : Int32) r38.2 _ h
      · rw [if_pos c41] at h
        refine V_iconst (v := 3) d_Model_about_44 (by decide) ?_
        refine V_goto (tgt := 49) d_Model_about_45 (by decide) ?_
        exact b_Model_about_49_ok G F v0 v1 v2 v0 (3 : Int32) r38.2 _ h
    · rw [if_pos c25] at h
      refine V_iconst (v := 2) d_Model_about_28 (by decide) ?_
      refine V_goto (tgt := 49) d_Model_about_29 (by decide) ?_
      exact b_Model_about_49_ok G F v0 v1 v2 v0 (2 : Int32) r22.2 _ h
  · rw [if_neg c5] at h
    refine V_iconst (v := 1) d_Model_about_8 (by decide) ?_
    refine V_goto (tgt := 49) d_Model_about_9 (by decide) ?_
    exact b_Model_about_49_ok G F v0 v1 v2 v0 (1 : Int32) r2.2 _ h
def f_Model_about (F : Nat) (v0 : Nat) (v1 : Int32) (v2 : Int32) (w : zW) : Option (Int32 × zW) := b_Model_about_0 F v0 v1 v2 w
theorem c_Model_about (G : zG) (F : Nat) (v0 : Nat) (v1 : Int32) (v2 : Int32) (w : zW) (r : (Int32 × zW)) (h : f_Model_about F v0 v1 v2 w = some r) : zCT G m_Model_about [.ref (z0 G + v0), .int v1, .int v2] w (oI r.1) r.2 := zCT.ofV (by decide +kernel) (Or.inl ⟨kc_Model_about, rfl⟩) (Nat.le_of_ble_eq_true rfl) (b_Model_about_0_ok G F v0 v1 v2 w r h)

/-! ZipArrayModel.lay(JI)V -/
def m_Model_lay : zM := (⟨R_Model, "lay", "(JI)V"⟩, prog_11_method_62_code, 5, none, [], { frames := 0, cells := 0, slots := 0, locals := 0 })
theorem k913 : Cond.fieldLink R_Model 289 (T_Model 31).1 (T_Model 31).2.1 (T_Model 31).2.2.1 ∈ zTb := tb_at 913 (by decide +kernel) rfl
theorem kc_Model_lay : Cond.code (mY m_Model_lay) (mC m_Model_lay) (mL m_Model_lay) (mT m_Model_lay) ∈ zTb := tb_at 1242 (by decide +kernel) rfl
theorem y_Model_lay : (mY m_Model_lay).cls ≠ "java/lang/invoke/MethodHandle" ∧ (mY m_Model_lay).cls ≠ "java/lang/invoke/VarHandle" ∧ (parseMethodDescriptor (mY m_Model_lay).desc).map (fun d => d.parameters.length) = some 2 := by decide +kernel
theorem sel_Model_lay : Cond.selects R_Model (mY m_Model_lay) (mY m_Model_lay) ∈ zTb := sel_at (y := mY m_Model_lay) (n := 33) 79 (by decide +kernel)
theorem d_Model_lay_0 : decode (mC m_Model_lay) 0 = .ok (.iconst 0, 1) := by decide +kernel
theorem d_Model_lay_1 : decode (mC m_Model_lay) 1 = .ok (.istore 4, 2) := by decide +kernel
theorem d_Model_lay_3 : decode (mC m_Model_lay) 3 = .ok (.iload 4, 2) := by decide +kernel
theorem d_Model_lay_5 : decode (mC m_Model_lay) 5 = .ok (.iload_n 3, 1) := by decide +kernel
theorem d_Model_lay_6 : decode (mC m_Model_lay) 6 = .ok (.if_icmp .ge 40, 3) := by decide +kernel
theorem d_Model_lay_9 : decode (mC m_Model_lay) 9 = .ok (.aload_n 0, 1) := by decide +kernel
theorem d_Model_lay_10 : decode (mC m_Model_lay) 10 = .ok (.getfield 67, 3) := by decide +kernel
theorem d_Model_lay_13 : decode (mC m_Model_lay) 13 = .ok (.aload_n 0, 1) := by decide +kernel
theorem d_Model_lay_14 : decode (mC m_Model_lay) 14 = .ok (.getfield 289, 3) := by decide +kernel
theorem d_Model_lay_17 : decode (mC m_Model_lay) 17 = .ok (.lload_n 1, 1) := by decide +kernel
theorem d_Model_lay_18 : decode (mC m_Model_lay) 18 = .ok (.bipush 8, 2) := by decide +kernel
theorem d_Model_lay_20 : decode (mC m_Model_lay) 20 = .ok (.iload 4, 2) := by decide +kernel
theorem d_Model_lay_22 : decode (mC m_Model_lay) 22 = .ok (.imul, 1) := by decide +kernel
theorem d_Model_lay_23 : decode (mC m_Model_lay) 23 = .ok (.lshr, 1) := by decide +kernel
theorem d_Model_lay_24 : decode (mC m_Model_lay) 24 = .ok (.l2i, 1) := by decide +kernel
theorem d_Model_lay_25 : decode (mC m_Model_lay) 25 = .ok (.sipush 255, 3) := by decide +kernel
theorem d_Model_lay_28 : decode (mC m_Model_lay) 28 = .ok (.iand, 1) := by decide +kernel
theorem d_Model_lay_29 : decode (mC m_Model_lay) 29 = .ok (.iastore, 1) := by decide +kernel
theorem d_Model_lay_30 : decode (mC m_Model_lay) 30 = .ok (.aload_n 0, 1) := by decide +kernel
theorem d_Model_lay_31 : decode (mC m_Model_lay) 31 = .ok (.dup, 1) := by decide +kernel
theorem d_Model_lay_32 : decode (mC m_Model_lay) 32 = .ok (.getfield 289, 3) := by decide +kernel
theorem d_Model_lay_35 : decode (mC m_Model_lay) 35 = .ok (.iconst 1, 1) := by decide +kernel
theorem d_Model_lay_36 : decode (mC m_Model_lay) 36 = .ok (.iadd, 1) := by decide +kernel
theorem d_Model_lay_37 : decode (mC m_Model_lay) 37 = .ok (.putfield 289, 3) := by decide +kernel
theorem d_Model_lay_40 : decode (mC m_Model_lay) 40 = .ok (.iinc 4 1, 3) := by decide +kernel
theorem d_Model_lay_43 : decode (mC m_Model_lay) 43 = .ok (.goto (-40), 3) := by decide +kernel
theorem d_Model_lay_46 : decode (mC m_Model_lay) 46 = .ok (.return_, 1) := by decide +kernel
def b_Model_lay_3 (F : Nat) (K3 : Nat → Int64 → Int32 → Int32 → zW → Option (Unit × zW)) (v0 : Nat) (v1 : Int64) (v3 : Int32) (v4 : Int32) (w : zW) : Option (Unit × zW) := if v3 ≤ v4 then (some ((), w)) else ((getR w v0 9 32).bind fun x10 => (getI w v0 9 31).bind fun x14 => (aset w x10 x14 ((v1 >>> (((8 : Int32) * v4).toInt64 &&& 63)).toInt32 &&& (255 : Int32))).bind fun w29 => (getI w29 v0 9 31).bind fun x32 => (putI w29 v0 9 31 (x32 + (1 : Int32))).bind fun w37 => K3 v0 v1 v3 (v4 + (1 : Int32)) w37)
set_option maxRecDepth 100000 in
set_option maxHeartbeats 4000000 in
theorem b_Model_lay_3_ok (G : zG) (F : Nat) (K3 : Nat → Int64 → Int32 → Int32 → zW → Option (Unit × zW)) (hK3 : ∀ (v0 : Nat) (v1 : Int64) (v3 : Int32) (v4 : Int32) (w : zW) (r : (Unit × zW)), K3 v0 v1 v3 v4 w = some r → zV G m_Model_lay 3 [(0, .ref (z0 G + v0)), (1, .long v1), (3, .int v3), (4, .int v4)] [] w 0 0 (oV r.1) r.2) (v0 : Nat) (v1 : Int64) (v3 : Int32) (v4 : Int32) (w : zW) (r : (Unit × zW)) (h : b_Model_lay_3 F K3 v0 v1 v3 v4 w = some r) : zV G m_Model_lay 3 [(0, .ref (z0 G + v0)), (1, .long v1), (3, .int v3), (4, .int v4)] [] w 0 0 (oV r.1) r.2 := by
  unfold b_Model_lay_3 at h
  refine V_iload (i := 4) d_Model_lay_3 3 rfl ?_
  refine V_iload_n (i := 3) d_Model_lay_5 rfl 2 rfl ?_
  refine V_icmp_ge (tgt := 46) d_Model_lay_6 (by decide) (fun c6 => ?_) (fun c6 => ?_)
  · rw [if_pos c6] at h
    obtain rfl := Option.some.inj h
    exact V_vret rfl (by decide) (by decide) d_Model_lay_46
  · rw [if_neg c6] at h
    refine V_aload_n (i := 0) d_Model_lay_9 rfl 0 rfl ?_
    obtain ⟨x10, e10, h⟩ := ob h
    refine V_getR (ci := 9) (k := 32) d_Model_lay_10 e10 rfl (by decide) in_Model k914 ?_
    refine V_aload_n (i := 0) d_Model_lay_13 rfl 0 rfl ?_
    obtain ⟨x14, e14, h⟩ := ob h
    refine V_getI (ci := 9) (k := 31) d_Model_lay_14 e14 rfl (by decide) in_Model k913 ?_
    refine V_lload_n (i := 1) d_Model_lay_17 rfl 1 rfl ?_
    refine V_bipush (v := 8) d_Model_lay_18 (by decide) ?_
    refine V_iload (i := 4) d_Model_lay_20 3 rfl ?_
    refine V_imul d_Model_lay_22 ?_
    refine V_lshr d_Model_lay_23 ?_
    refine V_l2i d_Model_lay_24 ?_
    refine V_sipush (v := 255) d_Model_lay_25 (by decide) ?_
    refine V_iand d_Model_lay_28 ?_
    obtain ⟨w29, e29, h⟩ := ob h
    refine V_aset d_Model_lay_29 e29 ?_
    refine V_aload_n (i := 0) d_Model_lay_30 rfl 0 rfl ?_
    refine V_dup rfl d_Model_lay_31 ?_
    obtain ⟨x32, e32, h⟩ := ob h
    refine V_getI (ci := 9) (k := 31) d_Model_lay_32 e32 rfl (by decide) in_Model k913 ?_
    refine V_iconst (v := 1) d_Model_lay_35 (by decide) ?_
    refine V_iadd d_Model_lay_36 ?_
    obtain ⟨w37, e37, h⟩ := ob h
    refine V_putI (ci := 9) (k := 31) t_Model d_Model_lay_37 e37 rfl (by decide) in_Model k913 ty_Model nm_Model rfl (Or.inl rfl) ?_
    refine V_iinc (i := 4) (v := (v4 + (1 : Int32))) d_Model_lay_40 3 rfl (congrArg (fun y => v4 + y) (by decide : Int32.ofInt (1) = (1 : Int32))) (by decide) rfl ?_
    refine V_goto (tgt := 3) d_Model_lay_43 (by decide) ?_
    refine V_lv [1, 2, 3, 0] rfl ?_
    exact hK3 v0 v1 v3 (v4 + (1 : Int32)) w37 _ h
def l_Model_lay_3 (F : Nat) : Nat → Nat → Int64 → Int32 → Int32 → zW → Option (Unit × zW)
  | 0 => fun _ _ _ _ _ => none
  | n + 1 => b_Model_lay_3 F (l_Model_lay_3 F n)
theorem l_Model_lay_3_ok (G : zG) (F : Nat) (n : Nat) :  ∀ (v0 : Nat) (v1 : Int64) (v3 : Int32) (v4 : Int32) (w : zW) (r : (Unit × zW)), l_Model_lay_3 F n v0 v1 v3 v4 w = some r → zV G m_Model_lay 3 [(0, .ref (z0 G + v0)), (1, .long v1), (3, .int v3), (4, .int v4)] [] w 0 0 (oV r.1) r.2 := by
  induction n with
  | zero => intro v0 v1 v3 v4 w r h; exact nomatch (show (none : Option (Unit × zW)) = some r from h)
  | succ n ih => intro v0 v1 v3 v4 w r h; exact b_Model_lay_3_ok G F (l_Model_lay_3 F n) ih v0 v1 v3 v4 w r h
def b_Model_lay_0 (F : Nat) (v0 : Nat) (v1 : Int64) (v3 : Int32) (w : zW) : Option (Unit × zW) := l_Model_lay_3 F F v0 v1 v3 (0 : Int32) w
set_option maxRecDepth 100000 in
set_option maxHeartbeats 4000000 in
theorem b_Model_lay_0_ok (G : zG) (F : Nat) (v0 : Nat) (v1 : Int64) (v3 : Int32) (w : zW) (r : (Unit × zW)) (h : b_Model_lay_0 F v0 v1 v3 w = some r) : zV G m_Model_lay 0 [(0, .ref (z0 G + v0)), (1, .long v1), (3, .int v3)] [] w 0 0 (oV r.1) r.2 := by
  unfold b_Model_lay_0 at h
  refine V_iconst (v := 0) d_Model_lay_0 (by decide) ?_
  refine V_istore (i := 4) d_Model_lay_1 (by decide) rfl ?_
  refine V_lv [1, 2, 3, 0] rfl ?_
  exact l_Model_lay_3_ok G F F v0 v1 v3 (0 : Int32) w _ h
def f_Model_lay (F : Nat) (v0 : Nat) (v1 : Int64) (v3 : Int32) (w : zW) : Option (Unit × zW) := b_Model_lay_0 F v0 v1 v3 w
theorem c_Model_lay (G : zG) (F : Nat) (v0 : Nat) (v1 : Int64) (v3 : Int32) (w : zW) (r : (Unit × zW)) (h : f_Model_lay F v0 v1 v3 w = some r) : zCT G m_Model_lay [.ref (z0 G + v0), .long v1, .int v3] w (oV r.1) r.2 := zCT.ofV (by decide +kernel) (Or.inl ⟨kc_Model_lay, rfl⟩) (Nat.le_of_ble_eq_true rfl) (b_Model_lay_0_ok G F v0 v1 v3 w r h)

/-! ZipArrayModel.putFile(II)V -/
def m_Model_putFile : zM := (⟨R_Model, "putFile", "(II)V"⟩, prog_11_method_63_code, 4, none, [], { frames := 0, cells := 0, slots := 0, locals := 0 })
theorem kc_Model_putFile : Cond.code (mY m_Model_putFile) (mC m_Model_putFile) (mL m_Model_putFile) (mT m_Model_putFile) ∈ zTb := tb_at 1277 (by decide +kernel) rfl
theorem y_Model_putFile : (mY m_Model_putFile).cls ≠ "java/lang/invoke/MethodHandle" ∧ (mY m_Model_putFile).cls ≠ "java/lang/invoke/VarHandle" ∧ (parseMethodDescriptor (mY m_Model_putFile).desc).map (fun d => d.parameters.length) = some 2 := by decide +kernel
theorem sel_Model_putFile : Cond.selects R_Model (mY m_Model_putFile) (mY m_Model_putFile) ∈ zTb := sel_at (y := mY m_Model_putFile) (n := 33) 83 (by decide +kernel)
theorem d_Model_putFile_0 : decode (mC m_Model_putFile) 0 = .ok (.iload_n 1, 1) := by decide +kernel
theorem d_Model_putFile_1 : decode (mC m_Model_putFile) 1 = .ok (.istore_n 3, 1) := by decide +kernel
theorem d_Model_putFile_2 : decode (mC m_Model_putFile) 2 = .ok (.iload_n 3, 1) := by decide +kernel
theorem d_Model_putFile_3 : decode (mC m_Model_putFile) 3 = .ok (.iload_n 2, 1) := by decide +kernel
theorem d_Model_putFile_4 : decode (mC m_Model_putFile) 4 = .ok (.if_icmp .ge 34, 3) := by decide +kernel
theorem d_Model_putFile_7 : decode (mC m_Model_putFile) 7 = .ok (.aload_n 0, 1) := by decide +kernel
theorem d_Model_putFile_8 : decode (mC m_Model_putFile) 8 = .ok (.getfield 67, 3) := by decide +kernel
theorem d_Model_putFile_11 : decode (mC m_Model_putFile) 11 = .ok (.aload_n 0, 1) := by decide +kernel
theorem d_Model_putFile_12 : decode (mC m_Model_putFile) 12 = .ok (.getfield 289, 3) := by decide +kernel
theorem d_Model_putFile_15 : decode (mC m_Model_putFile) 15 = .ok (.aload_n 0, 1) := by decide +kernel
theorem d_Model_putFile_16 : decode (mC m_Model_putFile) 16 = .ok (.getfield 13, 3) := by decide +kernel
theorem d_Model_putFile_19 : decode (mC m_Model_putFile) 19 = .ok (.iload_n 3, 1) := by decide +kernel
theorem d_Model_putFile_20 : decode (mC m_Model_putFile) 20 = .ok (.iaload, 1) := by decide +kernel
theorem d_Model_putFile_21 : decode (mC m_Model_putFile) 21 = .ok (.iastore, 1) := by decide +kernel
theorem d_Model_putFile_22 : decode (mC m_Model_putFile) 22 = .ok (.aload_n 0, 1) := by decide +kernel
theorem d_Model_putFile_23 : decode (mC m_Model_putFile) 23 = .ok (.dup, 1) := by decide +kernel
theorem d_Model_putFile_24 : decode (mC m_Model_putFile) 24 = .ok (.getfield 289, 3) := by decide +kernel
theorem d_Model_putFile_27 : decode (mC m_Model_putFile) 27 = .ok (.iconst 1, 1) := by decide +kernel
theorem d_Model_putFile_28 : decode (mC m_Model_putFile) 28 = .ok (.iadd, 1) := by decide +kernel
theorem d_Model_putFile_29 : decode (mC m_Model_putFile) 29 = .ok (.putfield 289, 3) := by decide +kernel
theorem d_Model_putFile_32 : decode (mC m_Model_putFile) 32 = .ok (.iinc 3 1, 3) := by decide +kernel
theorem d_Model_putFile_35 : decode (mC m_Model_putFile) 35 = .ok (.goto (-33), 3) := by decide +kernel
theorem d_Model_putFile_38 : decode (mC m_Model_putFile) 38 = .ok (.return_, 1) := by decide +kernel
def b_Model_putFile_2 (F : Nat) (K2 : Nat → Int32 → Int32 → zW → Option (Unit × zW)) (v0 : Nat) (v2 : Int32) (v3 : Int32) (w : zW) : Option (Unit × zW) := if v2 ≤ v3 then (some ((), w)) else ((getR w v0 9 32).bind fun x8 => (getI w v0 9 31).bind fun x12 => (getR w v0 9 4).bind fun x16 => (aget w x16 v3).bind fun x20 => (aset w x8 x12 x20).bind fun w21 => (getI w21 v0 9 31).bind fun x24 => (putI w21 v0 9 31 (x24 + (1 : Int32))).bind fun w29 => K2 v0 v2 (v3 + (1 : Int32)) w29)
set_option maxRecDepth 100000 in
set_option maxHeartbeats 4000000 in
theorem b_Model_putFile_2_ok (G : zG) (F : Nat) (K2 : Nat → Int32 → Int32 → zW → Option (Unit × zW)) (hK2 : ∀ (v0 : Nat) (v2 : Int32) (v3 : Int32) (w : zW) (r : (Unit × zW)), K2 v0 v2 v3 w = some r → zV G m_Model_putFile 2 [(0, .ref (z0 G + v0)), (2, .int v2), (3, .int v3)] [] w 0 0 (oV r.1) r.2) (v0 : Nat) (v2 : Int32) (v3 : Int32) (w : zW) (r : (Unit × zW)) (h : b_Model_putFile_2 F K2 v0 v2 v3 w = some r) : zV G m_Model_putFile 2 [(0, .ref (z0 G + v0)), (2, .int v2), (3, .int v3)] [] w 0 0 (oV r.1) r.2 := by
  unfold b_Model_putFile_2 at h
  refine V_iload_n (i := 3) d_Model_putFile_2 rfl 2 rfl ?_
  refine V_iload_n (i := 2) d_Model_putFile_3 rfl 1 rfl ?_
  refine V_icmp_ge (tgt := 38) d_Model_putFile_4 (by decide) (fun c4 => ?_) (fun c4 => ?_)
  · rw [if_pos c4] at h
    obtain rfl := Option.some.inj h
    exact V_vret rfl (by decide) (by decide) d_Model_putFile_38
  · rw [if_neg c4] at h
    refine V_aload_n (i := 0) d_Model_putFile_7 rfl 0 rfl ?_
    obtain ⟨x8, e8, h⟩ := ob h
    refine V_getR (ci := 9) (k := 32) d_Model_putFile_8 e8 rfl (by decide) in_Model k914 ?_
    refine V_aload_n (i := 0) d_Model_putFile_11 rfl 0 rfl ?_
    obtain ⟨x12, e12, h⟩ := ob h
    refine V_getI (ci := 9) (k := 31) d_Model_putFile_12 e12 rfl (by decide) in_Model k913 ?_
    refine V_aload_n (i := 0) d_Model_putFile_15 rfl 0 rfl ?_
    obtain ⟨x16, e16, h⟩ := ob h
    refine V_getR (ci := 9) (k := 4) d_Model_putFile_16 e16 rfl (by decide) in_Model k886 ?_
    refine V_iload_n (i := 3) d_Model_putFile_19 rfl 2 rfl ?_
    obtain ⟨x20, e20, h⟩ := ob h
    refine V_aget d_Model_putFile_20 e20 ?_
    obtain ⟨w21, e21, h⟩ := ob h
    refine V_aset d_Model_putFile_21 e21 ?_
    refine V_aload_n (i := 0) d_Model_putFile_22 rfl 0 rfl ?_
    refine V_dup rfl d_Model_putFile_23 ?_
    obtain ⟨x24, e24, h⟩ := ob h
    refine V_getI (ci := 9) (k := 31) d_Model_putFile_24 e24 rfl (by decide) in_Model k913 ?_
    refine V_iconst (v := 1) d_Model_putFile_27 (by decide) ?_
    refine V_iadd d_Model_putFile_28 ?_
    obtain ⟨w29, e29, h⟩ := ob h
    refine V_putI (ci := 9) (k := 31) t_Model d_Model_putFile_29 e29 rfl (by decide) in_Model k913 ty_Model nm_Model rfl (Or.inl rfl) ?_
    refine V_iinc (i := 3) (v := (v3 + (1 : Int32))) d_Model_putFile_32 2 rfl (congrArg (fun y => v3 + y) (by decide : Int32.ofInt (1) = (1 : Int32))) (by decide) rfl ?_
    refine V_goto (tgt := 2) d_Model_putFile_35 (by decide) ?_
    refine V_lv [1, 2, 0] rfl ?_
    exact hK2 v0 v2 (v3 + (1 : Int32)) w29 _ h
def l_Model_putFile_2 (F : Nat) : Nat → Nat → Int32 → Int32 → zW → Option (Unit × zW)
  | 0 => fun _ _ _ _ => none
  | n + 1 => b_Model_putFile_2 F (l_Model_putFile_2 F n)
theorem l_Model_putFile_2_ok (G : zG) (F : Nat) (n : Nat) :  ∀ (v0 : Nat) (v2 : Int32) (v3 : Int32) (w : zW) (r : (Unit × zW)), l_Model_putFile_2 F n v0 v2 v3 w = some r → zV G m_Model_putFile 2 [(0, .ref (z0 G + v0)), (2, .int v2), (3, .int v3)] [] w 0 0 (oV r.1) r.2 := by
  induction n with
  | zero => intro v0 v2 v3 w r h; exact nomatch (show (none : Option (Unit × zW)) = some r from h)
  | succ n ih => intro v0 v2 v3 w r h; exact b_Model_putFile_2_ok G F (l_Model_putFile_2 F n) ih v0 v2 v3 w r h
def b_Model_putFile_0 (F : Nat) (v0 : Nat) (v1 : Int32) (v2 : Int32) (w : zW) : Option (Unit × zW) := l_Model_putFile_2 F F v0 v2 v1 w
set_option maxRecDepth 100000 in
set_option maxHeartbeats 4000000 in
theorem b_Model_putFile_0_ok (G : zG) (F : Nat) (v0 : Nat) (v1 : Int32) (v2 : Int32) (w : zW) (r : (Unit × zW)) (h : b_Model_putFile_0 F v0 v1 v2 w = some r) : zV G m_Model_putFile 0 [(0, .ref (z0 G + v0)), (1, .int v1), (2, .int v2)] [] w 0 0 (oV r.1) r.2 := by
  unfold b_Model_putFile_0 at h
  refine V_iload_n (i := 1) d_Model_putFile_0 rfl 1 rfl ?_
  refine V_istore_n (i := 3) d_Model_putFile_1 rfl (by decide) rfl ?_
  refine V_lv [1, 3, 0] rfl ?_
  exact l_Model_putFile_2_ok G F F v0 v2 v1 w _ h
def f_Model_putFile (F : Nat) (v0 : Nat) (v1 : Int32) (v2 : Int32) (w : zW) : Option (Unit × zW) := b_Model_putFile_0 F v0 v1 v2 w
theorem c_Model_putFile (G : zG) (F : Nat) (v0 : Nat) (v1 : Int32) (v2 : Int32) (w : zW) (r : (Unit × zW)) (h : f_Model_putFile F v0 v1 v2 w = some r) : zCT G m_Model_putFile [.ref (z0 G + v0), .int v1, .int v2] w (oV r.1) r.2 := zCT.ofV (by decide +kernel) (Or.inl ⟨kc_Model_putFile, rfl⟩) (Nat.le_of_ble_eq_true rfl) (b_Model_putFile_0_ok G F v0 v1 v2 w r h)

/-! ZipArrayModel.putEnd(III)V -/
def m_Model_putEnd : zM := (⟨R_Model, "putEnd", "(III)V"⟩, prog_11_method_64_code, 5, none, [], { frames := 1, cells := 0, slots := 0, locals := 24 })
theorem k887 : Cond.fieldLink R_Model 292 (T_Model 5).1 (T_Model 5).2.1 (T_Model 5).2.2.1 ∈ zTb := tb_at 887 (by decide +kernel) rfl
theorem k1239 : Cond.methodLink R_Model 295 (mY m_Model_lay) ∈ zTb := tb_at 1239 (by decide +kernel) rfl
theorem k1241 : Cond.instanceMethod (mY m_Model_lay) ∈ zTb := tb_at 1241 (by decide +kernel) rfl
theorem k1243 : Cond.constantLong R_Model 299 65535 ∈ zTb := tb_at 1243 (by decide +kernel) rfl
theorem kc_Model_putEnd : Cond.code (mY m_Model_putEnd) (mC m_Model_putEnd) (mL m_Model_putEnd) (mT m_Model_putEnd) ∈ zTb := tb_at 1238 (by decide +kernel) rfl
theorem y_Model_putEnd : (mY m_Model_putEnd).cls ≠ "java/lang/invoke/MethodHandle" ∧ (mY m_Model_putEnd).cls ≠ "java/lang/invoke/VarHandle" ∧ (parseMethodDescriptor (mY m_Model_putEnd).desc).map (fun d => d.parameters.length) = some 3 := by decide +kernel
theorem sel_Model_putEnd : Cond.selects R_Model (mY m_Model_putEnd) (mY m_Model_putEnd) ∈ zTb := sel_at (y := mY m_Model_putEnd) (n := 33) 78 (by decide +kernel)
theorem d_Model_putEnd_0 : decode (mC m_Model_putEnd) 0 = .ok (.aload_n 0, 1) := by decide +kernel
theorem d_Model_putEnd_1 : decode (mC m_Model_putEnd) 1 = .ok (.getfield 289, 3) := by decide +kernel
theorem d_Model_putEnd_4 : decode (mC m_Model_putEnd) 4 = .ok (.istore 4, 2) := by decide +kernel
theorem d_Model_putEnd_6 : decode (mC m_Model_putEnd) 6 = .ok (.aload_n 0, 1) := by decide +kernel
theorem d_Model_putEnd_7 : decode (mC m_Model_putEnd) 7 = .ok (.getfield 292, 3) := by decide +kernel
theorem d_Model_putEnd_10 : decode (mC m_Model_putEnd) 10 = .ok (.ifCond .eq 91, 3) := by decide +kernel
theorem d_Model_putEnd_13 : decode (mC m_Model_putEnd) 13 = .ok (.aload_n 0, 1) := by decide +kernel
theorem d_Model_putEnd_14 : decode (mC m_Model_putEnd) 14 = .ok (.ldc2_w 224, 3) := by decide +kernel
theorem d_Model_putEnd_17 : decode (mC m_Model_putEnd) 17 = .ok (.iconst 4, 1) := by decide +kernel
theorem d_Model_putEnd_18 : decode (mC m_Model_putEnd) 18 = .ok (.invokevirtual 295, 3) := by decide +kernel
theorem d_Model_putEnd_21 : decode (mC m_Model_putEnd) 21 = .ok (.aload_n 0, 1) := by decide +kernel
theorem d_Model_putEnd_22 : decode (mC m_Model_putEnd) 22 = .ok (.ldc2_w 226, 3) := by decide +kernel
theorem d_Model_putEnd_25 : decode (mC m_Model_putEnd) 25 = .ok (.bipush 8, 2) := by decide +kernel
theorem d_Model_putEnd_27 : decode (mC m_Model_putEnd) 27 = .ok (.invokevirtual 295, 3) := by decide +kernel
theorem d_Model_putEnd_30 : decode (mC m_Model_putEnd) 30 = .ok (.aload_n 0, 1) := by decide +kernel
theorem d_Model_putEnd_31 : decode (mC m_Model_putEnd) 31 = .ok (.lconst 0, 1) := by decide +kernel
theorem d_Model_putEnd_32 : decode (mC m_Model_putEnd) 32 = .ok (.bipush 12, 2) := by decide +kernel
theorem d_Model_putEnd_34 : decode (mC m_Model_putEnd) 34 = .ok (.invokevirtual 295, 3) := by decide +kernel
theorem d_Model_putEnd_37 : decode (mC m_Model_putEnd) 37 = .ok (.aload_n 0, 1) := by decide +kernel
theorem d_Model_putEnd_38 : decode (mC m_Model_putEnd) 38 = .ok (.iload_n 2, 1) := by decide +kernel
theorem d_Model_putEnd_39 : decode (mC m_Model_putEnd) 39 = .ok (.i2l, 1) := by decide +kernel
theorem d_Model_putEnd_40 : decode (mC m_Model_putEnd) 40 = .ok (.bipush 8, 2) := by decide +kernel
theorem d_Model_putEnd_42 : decode (mC m_Model_putEnd) 42 = .ok (.invokevirtual 295, 3) := by decide +kernel
theorem d_Model_putEnd_45 : decode (mC m_Model_putEnd) 45 = .ok (.aload_n 0, 1) := by decide +kernel
theorem d_Model_putEnd_46 : decode (mC m_Model_putEnd) 46 = .ok (.iload_n 2, 1) := by decide +kernel
theorem d_Model_putEnd_47 : decode (mC m_Model_putEnd) 47 = .ok (.i2l, 1) := by decide +kernel
theorem d_Model_putEnd_48 : decode (mC m_Model_putEnd) 48 = .ok (.bipush 8, 2) := by decide +kernel
theorem d_Model_putEnd_50 : decode (mC m_Model_putEnd) 50 = .ok (.invokevirtual 295, 3) := by decide +kernel
theorem d_Model_putEnd_53 : decode (mC m_Model_putEnd) 53 = .ok (.aload_n 0, 1) := by decide +kernel
theorem d_Model_putEnd_54 : decode (mC m_Model_putEnd) 54 = .ok (.iload 4, 2) := by decide +kernel
theorem d_Model_putEnd_56 : decode (mC m_Model_putEnd) 56 = .ok (.iload_n 1, 1) := by decide +kernel
theorem d_Model_putEnd_57 : decode (mC m_Model_putEnd) 57 = .ok (.isub, 1) := by decide +kernel
theorem d_Model_putEnd_58 : decode (mC m_Model_putEnd) 58 = .ok (.i2l, 1) := by decide +kernel
theorem d_Model_putEnd_59 : decode (mC m_Model_putEnd) 59 = .ok (.bipush 8, 2) := by decide +kernel
theorem d_Model_putEnd_61 : decode (mC m_Model_putEnd) 61 = .ok (.invokevirtual 295, 3) := by decide +kernel
theorem d_Model_putEnd_64 : decode (mC m_Model_putEnd) 64 = .ok (.aload_n 0, 1) := by decide +kernel
theorem d_Model_putEnd_65 : decode (mC m_Model_putEnd) 65 = .ok (.iload_n 1, 1) := by decide +kernel
theorem d_Model_putEnd_66 : decode (mC m_Model_putEnd) 66 = .ok (.i2l, 1) := by decide +kernel
theorem d_Model_putEnd_67 : decode (mC m_Model_putEnd) 67 = .ok (.bipush 8, 2) := by decide +kernel
theorem d_Model_putEnd_69 : decode (mC m_Model_putEnd) 69 = .ok (.invokevirtual 295, 3) := by decide +kernel
theorem d_Model_putEnd_72 : decode (mC m_Model_putEnd) 72 = .ok (.aload_n 0, 1) := by decide +kernel
theorem d_Model_putEnd_73 : decode (mC m_Model_putEnd) 73 = .ok (.ldc2_w 222, 3) := by decide +kernel
theorem d_Model_putEnd_76 : decode (mC m_Model_putEnd) 76 = .ok (.iconst 4, 1) := by decide +kernel
theorem d_Model_putEnd_77 : decode (mC m_Model_putEnd) 77 = .ok (.invokevirtual 295, 3) := by decide +kernel
theorem d_Model_putEnd_80 : decode (mC m_Model_putEnd) 80 = .ok (.aload_n 0, 1) := by decide +kernel
theorem d_Model_putEnd_81 : decode (mC m_Model_putEnd) 81 = .ok (.lconst 0, 1) := by decide +kernel
theorem d_Model_putEnd_82 : decode (mC m_Model_putEnd) 82 = .ok (.iconst 4, 1) := by decide +kernel
theorem d_Model_putEnd_83 : decode (mC m_Model_putEnd) 83 = .ok (.invokevirtual 295, 3) := by decide +kernel
theorem d_Model_putEnd_86 : decode (mC m_Model_putEnd) 86 = .ok (.aload_n 0, 1) := by decide +kernel
theorem d_Model_putEnd_87 : decode (mC m_Model_putEnd) 87 = .ok (.iload 4, 2) := by decide +kernel
theorem d_Model_putEnd_89 : decode (mC m_Model_putEnd) 89 = .ok (.i2l, 1) := by decide +kernel
theorem d_Model_putEnd_90 : decode (mC m_Model_putEnd) 90 = .ok (.bipush 8, 2) := by decide +kernel
theorem d_Model_putEnd_92 : decode (mC m_Model_putEnd) 92 = .ok (.invokevirtual 295, 3) := by decide +kernel
theorem d_Model_putEnd_95 : decode (mC m_Model_putEnd) 95 = .ok (.aload_n 0, 1) := by decide +kernel
theorem d_Model_putEnd_96 : decode (mC m_Model_putEnd) 96 = .ok (.lconst 0, 1) := by decide +kernel
theorem d_Model_putEnd_97 : decode (mC m_Model_putEnd) 97 = .ok (.iconst 4, 1) := by decide +kernel
theorem d_Model_putEnd_98 : decode (mC m_Model_putEnd) 98 = .ok (.invokevirtual 295, 3) := by decide +kernel
theorem d_Model_putEnd_101 : decode (mC m_Model_putEnd) 101 = .ok (.aload_n 0, 1) := by decide +kernel
theorem d_Model_putEnd_102 : decode (mC m_Model_putEnd) 102 = .ok (.ldc2_w 197, 3) := by decide +kernel
theorem d_Model_putEnd_105 : decode (mC m_Model_putEnd) 105 = .ok (.iconst 4, 1) := by decide +kernel
theorem d_Model_putEnd_106 : decode (mC m_Model_putEnd) 106 = .ok (.invokevirtual 295, 3) := by decide +kernel
theorem d_Model_putEnd_109 : decode (mC m_Model_putEnd) 109 = .ok (.aload_n 0, 1) := by decide +kernel
theorem d_Model_putEnd_110 : decode (mC m_Model_putEnd) 110 = .ok (.lconst 0, 1) := by decide +kernel
theorem d_Model_putEnd_111 : decode (mC m_Model_putEnd) 111 = .ok (.iconst 4, 1) := by decide +kernel
theorem d_Model_putEnd_112 : decode (mC m_Model_putEnd) 112 = .ok (.invokevirtual 295, 3) := by decide +kernel
theorem d_Model_putEnd_115 : decode (mC m_Model_putEnd) 115 = .ok (.aload_n 0, 1) := by decide +kernel
theorem d_Model_putEnd_116 : decode (mC m_Model_putEnd) 116 = .ok (.aload_n 0, 1) := by decide +kernel
theorem d_Model_putEnd_117 : decode (mC m_Model_putEnd) 117 = .ok (.getfield 292, 3) := by decide +kernel
theorem d_Model_putEnd_120 : decode (mC m_Model_putEnd) 120 = .ok (.ifCond .eq 9, 3) := by decide +kernel
theorem d_Model_putEnd_123 : decode (mC m_Model_putEnd) 123 = .ok (.ldc2_w 299, 3) := by decide +kernel
theorem d_Model_putEnd_126 : decode (mC m_Model_putEnd) 126 = .ok (.goto 5, 3) := by decide +kernel
theorem d_Model_putEnd_129 : decode (mC m_Model_putEnd) 129 = .ok (.iload_n 2, 1) := by decide +kernel
theorem d_Model_putEnd_130 : decode (mC m_Model_putEnd) 130 = .ok (.i2l, 1) := by decide +kernel
theorem d_Model_putEnd_131 : decode (mC m_Model_putEnd) 131 = .ok (.iconst 2, 1) := by decide +kernel
theorem d_Model_putEnd_132 : decode (mC m_Model_putEnd) 132 = .ok (.invokevirtual 295, 3) := by decide +kernel
theorem d_Model_putEnd_135 : decode (mC m_Model_putEnd) 135 = .ok (.aload_n 0, 1) := by decide +kernel
theorem d_Model_putEnd_136 : decode (mC m_Model_putEnd) 136 = .ok (.aload_n 0, 1) := by decide +kernel
theorem d_Model_putEnd_137 : decode (mC m_Model_putEnd) 137 = .ok (.getfield 292, 3) := by decide +kernel
theorem d_Model_putEnd_140 : decode (mC m_Model_putEnd) 140 = .ok (.ifCond .eq 9, 3) := by decide +kernel
theorem d_Model_putEnd_143 : decode (mC m_Model_putEnd) 143 = .ok (.ldc2_w 299, 3) := by decide +kernel
theorem d_Model_putEnd_146 : decode (mC m_Model_putEnd) 146 = .ok (.goto 5, 3) := by decide +kernel
theorem d_Model_putEnd_149 : decode (mC m_Model_putEnd) 149 = .ok (.iload_n 2, 1) := by decide +kernel
theorem d_Model_putEnd_150 : decode (mC m_Model_putEnd) 150 = .ok (.i2l, 1) := by decide +kernel
theorem d_Model_putEnd_151 : decode (mC m_Model_putEnd) 151 = .ok (.iconst 2, 1) := by decide +kernel
theorem d_Model_putEnd_152 : decode (mC m_Model_putEnd) 152 = .ok (.invokevirtual 295, 3) := by decide +kernel
theorem d_Model_putEnd_155 : decode (mC m_Model_putEnd) 155 = .ok (.aload_n 0, 1) := by decide +kernel
theorem d_Model_putEnd_156 : decode (mC m_Model_putEnd) 156 = .ok (.aload_n 0, 1) := by decide +kernel
theorem d_Model_putEnd_157 : decode (mC m_Model_putEnd) 157 = .ok (.getfield 292, 3) := by decide +kernel
theorem d_Model_putEnd_160 : decode (mC m_Model_putEnd) 160 = .ok (.ifCond .eq 9, 3) := by decide +kernel
theorem d_Model_putEnd_163 : decode (mC m_Model_putEnd) 163 = .ok (.ldc2_w 228, 3) := by decide +kernel
theorem d_Model_putEnd_166 : decode (mC m_Model_putEnd) 166 = .ok (.goto 8, 3) := by decide +kernel
theorem d_Model_putEnd_169 : decode (mC m_Model_putEnd) 169 = .ok (.iload 4, 2) := by decide +kernel
theorem d_Model_putEnd_171 : decode (mC m_Model_putEnd) 171 = .ok (.iload_n 1, 1) := by decide +kernel
theorem d_Model_putEnd_172 : decode (mC m_Model_putEnd) 172 = .ok (.isub, 1) := by decide +kernel
theorem d_Model_putEnd_173 : decode (mC m_Model_putEnd) 173 = .ok (.i2l, 1) := by decide +kernel
theorem d_Model_putEnd_174 : decode (mC m_Model_putEnd) 174 = .ok (.iconst 4, 1) := by decide +kernel
theorem d_Model_putEnd_175 : decode (mC m_Model_putEnd) 175 = .ok (.invokevirtual 295, 3) := by decide +kernel
theorem d_Model_putEnd_178 : decode (mC m_Model_putEnd) 178 = .ok (.aload_n 0, 1) := by decide +kernel
theorem d_Model_putEnd_179 : decode (mC m_Model_putEnd) 179 = .ok (.aload_n 0, 1) := by decide +kernel
theorem d_Model_putEnd_180 : decode (mC m_Model_putEnd) 180 = .ok (.getfield 292, 3) := by decide +kernel
theorem d_Model_putEnd_183 : decode (mC m_Model_putEnd) 183 = .ok (.ifCond .eq 9, 3) := by decide +kernel
theorem d_Model_putEnd_186 : decode (mC m_Model_putEnd) 186 = .ok (.ldc2_w 228, 3) := by decide +kernel
theorem d_Model_putEnd_189 : decode (mC m_Model_putEnd) 189 = .ok (.goto 5, 3) := by decide +kernel
theorem d_Model_putEnd_192 : decode (mC m_Model_putEnd) 192 = .ok (.iload_n 1, 1) := by decide +kernel
theorem d_Model_putEnd_193 : decode (mC m_Model_putEnd) 193 = .ok (.i2l, 1) := by decide +kernel
theorem d_Model_putEnd_194 : decode (mC m_Model_putEnd) 194 = .ok (.iconst 4, 1) := by decide +kernel
theorem d_Model_putEnd_195 : decode (mC m_Model_putEnd) 195 = .ok (.invokevirtual 295, 3) := by decide +kernel
theorem d_Model_putEnd_198 : decode (mC m_Model_putEnd) 198 = .ok (.aload_n 0, 1) := by decide +kernel
theorem d_Model_putEnd_199 : decode (mC m_Model_putEnd) 199 = .ok (.iload_n 3, 1) := by decide +kernel
theorem d_Model_putEnd_200 : decode (mC m_Model_putEnd) 200 = .ok (.i2l, 1) := by decide +kernel
theorem d_Model_putEnd_201 : decode (mC m_Model_putEnd) 201 = .ok (.iconst 2, 1) := by decide +kernel
theorem d_Model_putEnd_202 : decode (mC m_Model_putEnd) 202 = .ok (.invokevirtual 295, 3) := by decide +kernel
theorem d_Model_putEnd_205 : decode (mC m_Model_putEnd) 205 = .ok (.return_, 1) := by decide +kernel
def b_Model_putEnd_194 (F : Nat) (v0 : Nat) (v3 : Int32) (s0 : Nat) (s1 : Int64) (w : zW) : Option (Unit × zW) := (zobj w s0 9).bind fun _ => (f_Model_lay F s0 s1 (4 : Int32) w).bind fun r195 => (zobj r195.2 v0 9).bind fun _ => (f_Model_lay F v0 v3.toInt64 (2 : Int32) r195.2).bind fun r202 => some ((), r202.2)
set_option maxRecDepth 100000 in
set_option maxHeartbeats 4000000 in
theorem b_Model_putEnd_194_ok (G : zG) (F : Nat) (v0 : Nat) (v3 : Int32) (s0 : Nat) (s1 : Int64) (w : zW) (r : (Unit × zW)) (h : b_Model_putEnd_194 F v0 v3 s0 s1 w = some r) : zV G m_Model_putEnd 194 [(0, .ref (z0 G + v0)), (3, .int v3)] [.long s1, .ref (z0 G + s0)] w 0 0 (oV r.1) r.2 := by
  unfold b_Model_putEnd_194 at h
  refine V_iconst (v := 4) d_Model_putEnd_194 (by decide) ?_
  obtain ⟨_, eo195, h⟩ := ob h
  obtain ⟨r195, e195, h⟩ := ob h
  refine V_call (v := none) (st := []) (inv_V (N := m_Model_lay) (As := [.long s1, .int (4 : Int32)]) (ci := 9) d_Model_putEnd_195 eo195 rfl k1239 k1241 sel_Model_lay kc_Model_lay y_Model_lay) ⟨Or.inl kc_Model_lay, k10, by decide, by decide⟩ (Nat.le_of_ble_eq_true rfl) (by decide) (by decide) (c_Model_lay G F s0 s1 (4 : Int32) w r195 e195) ?_
  refine V_aload_n (i := 0) d_Model_putEnd_198 rfl 0 rfl ?_
  refine V_iload_n (i := 3) d_Model_putEnd_199 rfl 1 rfl ?_
  refine V_i2l d_Model_putEnd_200 ?_
  refine V_iconst (v := 2) d_Model_putEnd_201 (by decide) ?_
  obtain ⟨_, eo202, h⟩ := ob h
  obtain ⟨r202, e202, h⟩ := ob h
  refine V_call (v := none) (st := []) (inv_V (N := m_Model_lay) (As := [.long v3.toInt64, .int (2 : Int32)]) (ci := 9) d_Model_putEnd_202 eo202 rfl k1239 k1241 sel_Model_lay kc_Model_lay y_Model_lay) ⟨Or.inl kc_Model_lay, k10, by decide, by decide⟩ (Nat.le_of_ble_eq_true rfl) (by decide) (by decide) (c_Model_lay G F v0 v3.toInt64 (2 : Int32) r195.2 r202 e202) ?_
  obtain rfl := Option.some.inj h
  exact V_vret rfl (by decide) (by decide) d_Model_putEnd_205
def b_Model_putEnd_174 (F : Nat) (v0 : Nat) (v1 : Int32) (v3 : Int32) (s0 : Nat) (s1 : Int64) (w : zW) : Option (Unit × zW) := (zobj w s0 9).bind fun _ => (f_Model_lay F s0 s1 (4 : Int32) w).bind fun r175 => (getI r175.2 v0 9 5).bind fun x180 => if x180 = 0 then (b_Model_putEnd_194 F v0 v3 v0 v1.toInt64 r175.2) else (b_Model_putEnd_194 F v0 v3 v0 (-1 : Int64) r175.2)
set_option maxRecDepth 100000 in
set_option maxHeartbeats 4000000 in
theorem b_Model_putEnd_174_ok (G : zG) (F : Nat) (v0 : Nat) (v1 : Int32) (v3 : Int32) (s0 : Nat) (s1 : Int64) (w : zW) (r : (Unit × zW)) (h : b_Model_putEnd_174 F v0 v1 v3 s0 s1 w = some r) : zV G m_Model_putEnd 174 [(0, .ref (z0 G + v0)), (1, .int v1), (3, .int v3)] [.long s1, .ref (z0 G + s0)] w 0 0 (oV r.1) r.2 := by
  unfold b_Model_putEnd_174 at h
  refine V_iconst (v := 4) d_Model_putEnd_174 (by decide) ?_
  obtain ⟨_, eo175, h⟩ := ob h
  obtain ⟨r175, e175, h⟩ := ob h
  refine V_call (v := none) (st := []) (inv_V (N := m_Model_lay) (As := [.long s1, .int (4 : Int32)]) (ci := 9) d_Model_putEnd_175 eo175 rfl k1239 k1241 sel_Model_lay kc_Model_lay y_Model_lay) ⟨Or.inl kc_Model_lay, k10, by decide, by decide⟩ (Nat.le_of_ble_eq_true rfl) (by decide) (by decide) (c_Model_lay G F s0 s1 (4 : Int32) w r175 e175) ?_
  refine V_aload_n (i := 0) d_Model_putEnd_178 rfl 0 rfl ?_
  refine V_aload_n (i := 0) d_Model_putEnd_179 rfl 0 rfl ?_
  obtain ⟨x180, e180, h⟩ := ob h
  refine V_getI (ci := 9) (k := 5) d_Model_putEnd_180 e180 rfl (by decide) in_Model k887 ?_
  refine V_if_eq (tgt := 192) d_Model_putEnd_183 (by decide) (fun c183 => ?_) (fun c183 => ?_)
  · rw [if_pos c183] at h
    refine V_iload_n (i := 1) d_Model_putEnd_192 rfl 1 rfl ?_
    refine V_i2l d_Model_putEnd_193 ?_
    refine V_lv [0, 2] rfl ?_
    exact b_Model_putEnd_194_ok G F v0 v3 v0 v1.toInt64 r175.2 _ h
  · rw [if_neg c183] at h
    refine V_ldc2 (v := -1) d_Model_putEnd_186 k1184 ?_
    refine V_goto (tgt := 194) d_Model_putEnd_189 (by decide) ?_
    refine V_lv [0, 2] rfl ?_
    exact b_Model_putEnd_194_ok G F v0 v3 v0 (-1 : Int64) r175.2 _ h
def b_Model_putEnd_151 (F : Nat) (v0 : Nat) (v1 : Int32) (v3 : Int32) (v4 : Int32) (s0 : Nat) (s1 : Int64) (w : zW) : Option (Unit × zW) := (zobj w s0 9).bind fun _ => (f_Model_lay F s0 s1 (2 : Int32) w).bind fun r152 => (getI r152.2 v0 9 5).bind fun x157 => if x157 = 0 then (b_Model_putEnd_174 F v0 v1 v3 v0 (v4 - v1).toInt64 r152.2) else (b_Model_putEnd_174 F v0 v1 v3 v0 (-1 : Int64) r152.2)
set_option maxRecDepth 100000 in
set_option maxHeartbeats 4000000 in
theorem b_Model_putEnd_151_ok (G : zG) (F : Nat) (v0 : Nat) (v1 : Int32) (v3 : Int32) (v4 : Int32) (s0 : Nat) (s1 : Int64) (w : zW) (r : (Unit × zW)) (h : b_Model_putEnd_151 F v0 v1 v3 v4 s0 s1 w = some r) : zV G m_Model_putEnd 151 [(0, .ref (z0 G + v0)), (1, .int v1), (3, .int v3), (4, .int v4)] [.long s1, .ref (z0 G + s0)] w 0 0 (oV r.1) r.2 := by
  unfold b_Model_putEnd_151 at h
  refine V_iconst (v := 2) d_Model_putEnd_151 (by decide) ?_
  obtain ⟨_, eo152, h⟩ := ob h
  obtain ⟨r152, e152, h⟩ := ob h
  refine V_call (v := none) (st := []) (inv_V (N := m_Model_lay) (As := [.long s1, .int (2 : Int32)]) (ci := 9) d_Model_putEnd_152 eo152 rfl k1239 k1241 sel_Model_lay kc_Model_lay y_Model_lay) ⟨Or.inl kc_Model_lay, k10, by decide, by decide⟩ (Nat.le_of_ble_eq_true rfl) (by decide) (by decide) (c_Model_lay G F s0 s1 (2 : Int32) w r152 e152) ?_
  refine V_aload_n (i := 0) d_Model_putEnd_155 rfl 0 rfl ?_
  refine V_aload_n (i := 0) d_Model_putEnd_156 rfl 0 rfl ?_
  obtain ⟨x157, e157, h⟩ := ob h
  refine V_getI (ci := 9) (k := 5) d_Model_putEnd_157 e157 rfl (by decide) in_Model k887 ?_
  refine V_if_eq (tgt := 169) d_Model_putEnd_160 (by decide) (fun c160 => ?_) (fun c160 => ?_)
  · rw [if_pos c160] at h
    refine V_iload (i := 4) d_Model_putEnd_169 3 rfl ?_
    refine V_iload_n (i := 1) d_Model_putEnd_171 rfl 1 rfl ?_
    refine V_isub d_Model_putEnd_172 ?_
    refine V_i2l d_Model_putEnd_173 ?_
    refine V_lv [0, 1, 2] rfl ?_
    exact b_Model_putEnd_174_ok G F v0 v1 v3 v0 (v4 - v1).toInt64 r152.2 _ h
  · rw [if_neg c160] at h
    refine V_ldc2 (v := -1) d_Model_putEnd_163 k1184 ?_
    refine V_goto (tgt := 174) d_Model_putEnd_166 (by decide) ?_
    refine V_lv [0, 1, 2] rfl ?_
    exact b_Model_putEnd_174_ok G F v0 v1 v3 v0 (-1 : Int64) r152.2 _ h
def b_Model_putEnd_131 (F : Nat) (v0 : Nat) (v1 : Int32) (v2 : Int32) (v3 : Int32) (v4 : Int32) (s0 : Nat) (s1 : Int64) (w : zW) : Option (Unit × zW) := (zobj w s0 9).bind fun _ => (f_Model_lay F s0 s1 (2 : Int32) w).bind fun r132 => (getI r132.2 v0 9 5).bind fun x137 => if x137 = 0 then (b_Model_putEnd_151 F v0 v1 v3 v4 v0 v2.toInt64 r132.2) else (b_Model_putEnd_151 F v0 v1 v3 v4 v0 (65535 : Int64) r132.2)
set_option maxRecDepth 100000 in
set_option maxHeartbeats 4000000 in
theorem b_Model_putEnd_131_ok (G : zG) (F : Nat) (v0 : Nat) (v1 : Int32) (v2 : Int32) (v3 : Int32) (v4 : Int32) (s0 : Nat) (s1 : Int64) (w : zW) (r : (Unit × zW)) (h : b_Model_putEnd_131 F v0 v1 v2 v3 v4 s0 s1 w = some r) : zV G m_Model_putEnd 131 [(0, .ref (z0 G + v0)), (1, .int v1), (2, .int v2), (3, .int v3), (4, .int v4)] [.long s1, .ref (z0 G + s0)] w 0 0 (oV r.1) r.2 := by
  unfold b_Model_putEnd_131 at h
  refine V_iconst (v := 2) d_Model_putEnd_131 (by decide) ?_
  obtain ⟨_, eo132, h⟩ := ob h
  obtain ⟨r132, e132, h⟩ := ob h
  refine V_call (v := none) (st := []) (inv_V (N := m_Model_lay) (As := [.long s1, .int (2 : Int32)]) (ci := 9) d_Model_putEnd_132 eo132 rfl k1239 k1241 sel_Model_lay kc_Model_lay y_Model_lay) ⟨Or.inl kc_Model_lay, k10, by decide, by decide⟩ (Nat.le_of_ble_eq_true rfl) (by decide) (by decide) (c_Model_lay G F s0 s1 (2 : Int32) w r132 e132) ?_
  refine V_aload_n (i := 0) d_Model_putEnd_135 rfl 0 rfl ?_
  refine V_aload_n (i := 0) d_Model_putEnd_136 rfl 0 rfl ?_
  obtain ⟨x137, e137, h⟩ := ob h
  refine V_getI (ci := 9) (k := 5) d_Model_putEnd_137 e137 rfl (by decide) in_Model k887 ?_
  refine V_if_eq (tgt := 149) d_Model_putEnd_140 (by decide) (fun c140 => ?_) (fun c140 => ?_)
  · rw [if_pos c140] at h
    refine V_iload_n (i := 2) d_Model_putEnd_149 rfl 2 rfl ?_
    refine V_i2l d_Model_putEnd_150 ?_
    refine V_lv [0, 1, 3, 4] rfl ?_
    exact b_Model_putEnd_151_ok G F v0 v1 v3 v4 v0 v2.toInt64 r132.2 _ h
  · rw [if_neg c140] at h
    refine V_ldc2 (v := 65535) d_Model_putEnd_143 k1243 ?_
    refine V_goto (tgt := 151) d_Model_putEnd_146 (by decide) ?_
    refine V_lv [0, 1, 3, 4] rfl ?_
    exact b_Model_putEnd_151_ok G F v0 v1 v3 v4 v0 (65535 : Int64) r132.2 _ h
def b_Model_putEnd_101 (F : Nat) (v0 : Nat) (v1 : Int32) (v2 : Int32) (v3 : Int32) (v4 : Int32) (w : zW) : Option (Unit × zW) := (zobj w v0 9).bind fun _ => (f_Model_lay F v0 (101010256 : Int64) (4 : Int32) w).bind fun r106 => (zobj r106.2 v0 9).bind fun _ => (f_Model_lay F v0 (0 : Int64) (4 : Int32) r106.2).bind fun r112 => (getI r112.2 v0 9 5).bind fun x117 => if x117 = 0 then (b_Model_putEnd_131 F v0 v1 v2 v3 v4 v0 v2.toInt64 r112.2) else (b_Model_putEnd_131 F v0 v1 v2 v3 v4 v0 (65535 : Int64) r112.2)
set_option maxRecDepth 100000 in
set_option maxHeartbeats 4000000 in
theorem b_Model_putEnd_101_ok (G : zG) (F : Nat) (v0 : Nat) (v1 : Int32) (v2 : Int32) (v3 : Int32) (v4 : Int32) (w : zW) (r : (Unit × zW)) (h : b_Model_putEnd_101 F v0 v1 v2 v3 v4 w = some r) : zV G m_Model_putEnd 101 [(0, .ref (z0 G + v0)), (1, .int v1), (2, .int v2), (3, .int v3), (4, .int v4)] [] w 0 0 (oV r.1) r.2 := by
  unfold b_Model_putEnd_101 at h
  refine V_aload_n (i := 0) d_Model_putEnd_101 rfl 0 rfl ?_
  refine V_ldc2 (v := 101010256) d_Model_putEnd_102 k1142 ?_
  refine V_iconst (v := 4) d_Model_putEnd_105 (by decide) ?_
  obtain ⟨_, eo106, h⟩ := ob h
  obtain ⟨r106, e106, h⟩ := ob h
  refine V_call (v := none) (st := []) (inv_V (N := m_Model_lay) (As := [.long (101010256 : Int64), .int (4 : Int32)]) (ci := 9) d_Model_putEnd_106 eo106 rfl k1239 k1241 sel_Model_lay kc_Model_lay y_Model_lay) ⟨Or.inl kc_Model_lay, k10, by decide, by decide⟩ (Nat.le_of_ble_eq_true rfl) (by decide) (by decide) (c_Model_lay G F v0 (101010256 : Int64) (4 : Int32) w r106 e106) ?_
  refine V_aload_n (i := 0) d_Model_putEnd_109 rfl 0 rfl ?_
  refine V_lconst (v := 0) d_Model_putEnd_110 (by decide) ?_
  refine V_iconst (v := 4) d_Model_putEnd_111 (by decide) ?_
  obtain ⟨_, eo112, h⟩ := ob h
  obtain ⟨r112, e112, h⟩ := ob h
  refine V_call (v := none) (st := []) (inv_V (N := m_Model_lay) (As := [.long (0 : Int64), .int (4 : Int32)]) (ci := 9) d_Model_putEnd_112 eo112 rfl k1239 k1241 sel_Model_lay kc_Model_lay y_Model_lay) ⟨Or.inl kc_Model_lay, k10, by decide, by decide⟩ (Nat.le_of_ble_eq_true rfl) (by decide) (by decide) (c_Model_lay G F v0 (0 : Int64) (4 : Int32) r106.2 r112 e112) ?_
  refine V_aload_n (i := 0) d_Model_putEnd_115 rfl 0 rfl ?_
  refine V_aload_n (i := 0) d_Model_putEnd_116 rfl 0 rfl ?_
  obtain ⟨x117, e117, h⟩ := ob h
  refine V_getI (ci := 9) (k := 5) d_Model_putEnd_117 e117 rfl (by decide) in_Model k887 ?_
  refine V_if_eq (tgt := 129) d_Model_putEnd_120 (by decide) (fun c120 => ?_) (fun c120 => ?_)
  · rw [if_pos c120] at h
    refine V_iload_n (i := 2) d_Model_putEnd_129 rfl 2 rfl ?_
    refine V_i2l d_Model_putEnd_130 ?_
    exact b_Model_putEnd_131_ok G F v0 v1 v2 v3 v4 v0 v2.toInt64 r112.2 _ h
  · rw [if_neg c120] at h
    refine V_ldc2 (v := 65535) d_Model_putEnd_123 k1243 ?_
    refine V_goto (tgt := 131) d_Model_putEnd_126 (by decide) ?_
    exact b_Model_putEnd_131_ok G F v0 v1 v2 v3 v4 v0 (65535 : Int64) r112.2 _ h
def b_Model_putEnd_0 (F : Nat) (v0 : Nat) (v1 : Int32) (v2 : Int32) (v3 : Int32) (w : zW) : Option (Unit × zW) := (getI w v0 9 31).bind fun x1 => (getI w v0 9 5).bind fun x7 => if x7 = 0 then (b_Model_putEnd_101 F v0 v1 v2 v3 x1 w) else ((zobj w v0 9).bind fun _ => (f_Model_lay F v0 (101075792 : Int64) (4 : Int32) w).bind fun r18 => (zobj r18.2 v0 9).bind fun _ => (f_Model_lay F v0 (44 : Int64) (8 : Int32) r18.2).bind fun r27 => (zobj r27.2 v0 9).bind fun _ => (f_Model_lay F v0 (0 : Int64) (12 : Int32) r27.2).bind fun r34 => (zobj r34.2 v0 9).bind fun _ => (f_Model_lay F v0 v2.toInt64 (8 : Int32) r34.2).bind fun r42 => (zobj r42.2 v0 9).bind fun _ => (f_Model_lay F v0 v2.toInt64 (8 : Int32) r42.2).bind fun r50 => (zobj r50.2 v0 9).bind fun _ => (f_Model_lay F v0 (x1 - v1).toInt64 (8 : Int32) r50.2).bind fun r61 => (zobj r61.2 v0 9).bind fun _ => (f_Model_lay F v0 v1.toInt64 (8 : Int32) r61.2).bind fun r69 => (zobj r69.2 v0 9).bind fun _ => (f_Model_lay F v0 (117853008 : Int64) (4 : Int32) r69.2).bind fun r77 => (zobj r77.2 v0 9).bind fun _ => (f_Model_lay F v0 (0 : Int64) (4 : Int32) r77.2).bind fun r83 => (zobj r83.2 v0 9).bind fun _ => (f_Model_lay F v0 x1.toInt64 (8 : Int32) r83.2).bind fun r92 => (zobj r92.2 v0 9).bind fun _ => (f_Model_lay F v0 (0 : Int64) (4 : Int32) r92.2).bind fun r98 => b_Model_putEnd_101 F v0 v1 v2 v3 x1 r98.2)
set_option maxRecDepth 100000 in
set_option maxHeartbeats 4000000 in
theorem b_Model_putEnd_0_ok (G : zG) (F : Nat) (v0 : Nat) (v1 : Int32) (v2 : Int32) (v3 : Int32) (w : zW) (r : (Unit × zW)) (h : b_Model_putEnd_0 F v0 v1 v2 v3 w = some r) : zV G m_Model_putEnd 0 [(0, .ref (z0 G + v0)), (1, .int v1), (2, .int v2), (3, .int v3)] [] w 0 0 (oV r.1) r.2 := by
  unfold b_Model_putEnd_0 at h
  refine V_aload_n (i := 0) d_Model_putEnd_0 rfl 0 rfl ?_
  obtain ⟨x1, e1, h⟩ := ob h
  refine V_getI (ci := 9) (k := 31) d_Model_putEnd_1 e1 rfl (by decide) in_Model k913 ?_
  refine V_istore (i := 4) d_Model_putEnd_4 (by decide) rfl ?_
  refine V_aload_n (i := 0) d_Model_putEnd_6 rfl 1 rfl ?_
  obtain ⟨x7, e7, h⟩ := ob h
  refine V_getI (ci := 9) (k := 5) d_Model_putEnd_7 e7 rfl (by decide) in_Model k887 ?_
  refine V_if_eq (tgt := 101) d_Model_putEnd_10 (by decide) (fun c10 => ?_) (fun c10 => ?_)
  · rw [if_pos c10] at h
    refine V_lv [1, 2, 3, 4, 0] rfl ?_
    exact b_Model_putEnd_101_ok G F v0 v1 v2 v3 x1 w _ h
  · rw [if_neg c10] at h
    refine V_aload_n (i := 0) d_Model_putEnd_13 rfl 1 rfl ?_
    refine V_ldc2 (v := 101075792) d_Model_putEnd_14 k1161 ?_
    refine V_iconst (v := 4) d_Model_putEnd_17 (by decide) ?_
    obtain ⟨_, eo18, h⟩ := ob h
    obtain ⟨r18, e18, h⟩ := ob h
    refine V_call (v := none) (st := []) (inv_V (N := m_Model_lay) (As := [.long (101075792 : Int64), .int (4 : Int32)]) (ci := 9) d_Model_putEnd_18 eo18 rfl k1239 k1241 sel_Model_lay kc_Model_lay y_Model_lay) ⟨Or.inl kc_Model_lay, k10, by decide, by decide⟩ (Nat.le_of_ble_eq_true rfl) (by decide) (by decide) (c_Model_lay G F v0 (101075792 : Int64) (4 : Int32) w r18 e18) ?_
    refine V_aload_n (i := 0) d_Model_putEnd_21 rfl 1 rfl ?_
    refine V_ldc2 (v := 44) d_Model_putEnd_22 k1162 ?_
    refine V_bipush (v := 8) d_Model_putEnd_25 (by decide) ?_
    obtain ⟨_, eo27, h⟩ := ob h
    obtain ⟨r27, e27, h⟩ := ob h
    refine V_call (v := none) (st := []) (inv_V (N := m_Model_lay) (As := [.long (44 : Int64), .int (8 : Int32)]) (ci := 9) d_Model_putEnd_27 eo27 rfl k1239 k1241 sel_Model_lay kc_Model_lay y_Model_lay) ⟨Or.inl kc_Model_lay, k10, by decide, by decide⟩ (Nat.le_of_ble_eq_true rfl) (by decide) (by decide) (c_Model_lay G F v0 (44 : Int64) (8 : Int32) r18.2 r27 e27) ?_
    refine V_aload_n (i := 0) d_Model_putEnd_30 rfl 1 rfl ?_
    refine V_lconst (v := 0) d_Model_putEnd_31 (by decide) ?_
    refine V_bipush (v := 12) d_Model_putEnd_32 (by decide) ?_
    obtain ⟨_, eo34, h⟩ := ob h
    obtain ⟨r34, e34, h⟩ := ob h
    refine V_call (v := none) (st := []) (inv_V (N := m_Model_lay) (As := [.long (0 : Int64), .int (12 : Int32)]) (ci := 9) d_Model_putEnd_34 eo34 rfl k1239 k1241 sel_Model_lay kc_Model_lay y_Model_lay) ⟨Or.inl kc_Model_lay, k10, by decide, by decide⟩ (Nat.le_of_ble_eq_true rfl) (by decide) (by decide) (c_Model_lay G F v0 (0 : Int64) (12 : Int32) r27.2 r34 e34) ?_
    refine V_aload_n (i := 0) d_Model_putEnd_37 rfl 1 rfl ?_
    refine V_iload_n (i := 2) d_Model_putEnd_38 rfl 3 rfl ?_
    refine V_i2l d_Model_putEnd_39 ?_
    refine V_bipush (v := 8) d_Model_putEnd_40 (by decide) ?_
    obtain ⟨_, eo42, h⟩ := ob h
    obtain ⟨r42, e42, h⟩ := ob h
    refine V_call (v := none) (st := []) (inv_V (N := m_Model_lay) (As := [.long v2.toInt64, .int (8 : Int32)]) (ci := 9) d_Model_putEnd_42 eo42 rfl k1239 k1241 sel_Model_lay kc_Model_lay y_Model_lay) ⟨Or.inl kc_Model_lay, k10, by decide, by decide⟩ (Nat.le_of_ble_eq_true rfl) (by decide) (by decide) (c_Model_lay G F v0 v2.toInt64 (8 : Int32) r34.2 r42 e42) ?_
    refine V_aload_n (i := 0) d_Model_putEnd_45 rfl 1 rfl ?_
    refine V_iload_n (i := 2) d_Model_putEnd_46 rfl 3 rfl ?_
    refine V_i2l d_Model_putEnd_47 ?_
    refine V_bipush (v := 8) d_Model_putEnd_48 (by decide) ?_
    obtain ⟨_, eo50, h⟩ := ob h
    obtain ⟨r50, e50, h⟩ := ob h
    refine V_call (v := none) (st := []) (inv_V (N := m_Model_lay) (As := [.long v2.toInt64, .int (8 : Int32)]) (ci := 9) d_Model_putEnd_50 eo50 rfl k1239 k1241 sel_Model_lay kc_Model_lay y_Model_lay) ⟨Or.inl kc_Model_lay, k10, by decide, by decide⟩ (Nat.le_of_ble_eq_true rfl) (by decide) (by decide) (c_Model_lay G F v0 v2.toInt64 (8 : Int32) r42.2 r50 e50) ?_
    refine V_aload_n (i := 0) d_Model_putEnd_53 rfl 1 rfl ?_
    refine V_iload (i := 4) d_Model_putEnd_54 0 rfl ?_
    refine V_iload_n (i := 1) d_Model_putEnd_56 rfl 2 rfl ?_
    refine V_isub d_Model_putEnd_57 ?_
    refine V_i2l d_Model_putEnd_58 ?_
    refine V_bipush (v := 8) d_Model_putEnd_59 (by decide) ?_
    obtain ⟨_, eo61, h⟩ := ob h
    obtain ⟨r61, e61, h⟩ := ob h
    refine V_call (v := none) (st := []) (inv_V (N := m_Model_lay) (As := [.long (x1 - v1).toInt64, .int (8 : Int32)]) (ci := 9) d_Model_putEnd_61 eo61 rfl k1239 k1241 sel_Model_lay kc_Model_lay y_Model_lay) ⟨Or.inl kc_Model_lay, k10, by decide, by decide⟩ (Nat.le_of_ble_eq_true rfl) (by decide) (by decide) (c_Model_lay G F v0 (x1 - v1).toInt64 (8 : Int32) r50.2 r61 e61) ?_
    refine V_aload_n (i := 0) d_Model_putEnd_64 rfl 1 rfl ?_
    refine V_iload_n (i := 1) d_Model_putEnd_65 rfl 2 rfl ?_
    refine V_i2l d_Model_putEnd_66 ?_
    refine V_bipush (v := 8) d_Model_putEnd_67 (by decide) ?_
    obtain ⟨_, eo69, h⟩ := ob h
    obtain ⟨r69, e69, h⟩ := ob h
    refine V_call (v := none) (st := []) (inv_V (N := m_Model_lay) (As := [.long v1.toInt64, .int (8 : Int32)]) (ci := 9) d_Model_putEnd_69 eo69 rfl k1239 k1241 sel_Model_lay kc_Model_lay y_Model_lay) ⟨Or.inl kc_Model_lay, k10, by decide, by decide⟩ (Nat.le_of_ble_eq_true rfl) (by decide) (by decide) (c_Model_lay G F v0 v1.toInt64 (8 : Int32) r61.2 r69 e69) ?_
    refine V_aload_n (i := 0) d_Model_putEnd_72 rfl 1 rfl ?_
    refine V_ldc2 (v := 117853008) d_Model_putEnd_73 k1160 ?_
    refine V_iconst (v := 4) d_Model_putEnd_76 (by decide) ?_
    obtain ⟨_, eo77, h⟩ := ob h
    obtain ⟨r77, e77, h⟩ := ob h
    refine V_call (v := none) (st := []) (inv_V (N := m_Model_lay) (As := [.long (117853008 : Int64), .int (4 : Int32)]) (ci := 9) d_Model_putEnd_77 eo77 rfl k1239 k1241 sel_Model_lay kc_Model_lay y_Model_lay) ⟨Or.inl kc_Model_lay, k10, by decide, by decide⟩ (Nat.le_of_ble_eq_true rfl) (by decide) (by decide) (c_Model_lay G F v0 (117853008 : Int64) (4 : Int32) r69.2 r77 e77) ?_
    refine V_aload_n (i := 0) d_Model_putEnd_80 rfl 1 rfl ?_
    refine V_lconst (v := 0) d_Model_putEnd_81 (by decide) ?_
    refine V_iconst (v := 4) d_Model_putEnd_82 (by decide) ?_
    obtain ⟨_, eo83, h⟩ := ob h
    obtain ⟨r83, e83, h⟩ := ob h
    refine V_call (v := none) (st := []) (inv_V (N := m_Model_lay) (As := [.long (0 : Int64), .int (4 : Int32)]) (ci := 9) d_Model_putEnd_83 eo83 rfl k1239 k1241 sel_Model_lay kc_Model_lay y_Model_lay) ⟨Or.inl kc_Model_lay, k10, by decide, by decide⟩ (Nat.le_of_ble_eq_true rfl) (by decide) (by decide) (c_Model_lay G F v0 (0 : Int64) (4 : Int32) r77.2 r83 e83) ?_
    refine V_aload_n (i := 0) d_Model_putEnd_86 rfl 1 rfl ?_
    refine V_iload (i := 4) d_Model_putEnd_87 0 rfl ?_
    refine V_i2l d_Model_putEnd_89 ?_
    refine V_bipush (v := 8) d_Model_putEnd_90 (by decide) ?_
    obtain ⟨_, eo92, h⟩ := ob h
    obtain ⟨r92, e92, h⟩ := ob h
    refine V_call (v := none) (st := []) (inv_V (N := m_Model_lay) (As := [.long x1.toInt64, .int (8 : Int32)]) (ci := 9) d_Model_putEnd_92 eo92 rfl k1239 k1241 sel_Model_lay kc_Model_lay y_Model_lay) ⟨Or.inl kc_Model_lay, k10, by decide, by decide⟩ (Nat.le_of_ble_eq_true rfl) (by decide) (by decide) (c_Model_lay G F v0 x1.toInt64 (8 : Int32) r83.2 r92 e92) ?_
    refine V_aload_n (i := 0) d_Model_putEnd_95 rfl 1 rfl ?_
    refine V_lconst (v := 0) d_Model_putEnd_96 (by decide) ?_
    refine V_iconst (v := 4) d_Model_putEnd_97 (by decide) ?_
    obtain ⟨_, eo98, h⟩ := ob h
    obtain ⟨r98, e98, h⟩ := ob h
    refine V_call (v := none) (st := []) (inv_V (N := m_Model_lay) (As := [.long (0 : Int64), .int (4 : Int32)]) (ci := 9) d_Model_putEnd_98 eo98 rfl k1239 k1241 sel_Model_lay kc_Model_lay y_Model_lay) ⟨Or.inl kc_Model_lay, k10, by decide, by decide⟩ (Nat.le_of_ble_eq_true rfl) (by decide) (by decide) (c_Model_lay G F v0 (0 : Int64) (4 : Int32) r92.2 r98 e98) ?_
    refine V_lv [1, 2, 3, 4, 0] rfl ?_
    exact b_Model_putEnd_101_ok G F v0 v1 v2 v3 x1 r98.2 _ h
def f_Model_putEnd (F : Nat) (v0 : Nat) (v1 : Int32) (v2 : Int32) (v3 : Int32) (w : zW) : Option (Unit × zW) := b_Model_putEnd_0 F v0 v1 v2 v3 w
theorem c_Model_putEnd (G : zG) (F : Nat) (v0 : Nat) (v1 : Int32) (v2 : Int32) (v3 : Int32) (w : zW) (r : (Unit × zW)) (h : f_Model_putEnd F v0 v1 v2 v3 w = some r) : zCT G m_Model_putEnd [.ref (z0 G + v0), .int v1, .int v2, .int v3] w (oV r.1) r.2 := zCT.ofV (by decide +kernel) (Or.inl ⟨kc_Model_putEnd, rfl⟩) (Nat.le_of_ble_eq_true rfl) (b_Model_putEnd_0_ok G F v0 v1 v2 v3 w r h)

/-! ZipArrayModel.takeDraft()V -/
def m_Model_takeDraft : zM := (⟨R_Model, "takeDraft", "()V"⟩, prog_11_method_65_code, 2, none, [], { frames := 0, cells := 0, slots := 0, locals := 0 })
theorem kc_Model_takeDraft : Cond.code (mY m_Model_takeDraft) (mC m_Model_takeDraft) (mL m_Model_takeDraft) (mT m_Model_takeDraft) ∈ zTb := tb_at 1247 (by decide +kernel) rfl
theorem y_Model_takeDraft : (mY m_Model_takeDraft).cls ≠ "java/lang/invoke/MethodHandle" ∧ (mY m_Model_takeDraft).cls ≠ "java/lang/invoke/VarHandle" ∧ (parseMethodDescriptor (mY m_Model_takeDraft).desc).map (fun d => d.parameters.length) = some 0 := by decide +kernel
theorem sel_Model_takeDraft : Cond.selects R_Model (mY m_Model_takeDraft) (mY m_Model_takeDraft) ∈ zTb := sel_at (y := mY m_Model_takeDraft) (n := 33) 80 (by decide +kernel)
theorem d_Model_takeDraft_0 : decode (mC m_Model_takeDraft) 0 = .ok (.aload_n 0, 1) := by decide +kernel
theorem d_Model_takeDraft_1 : decode (mC m_Model_takeDraft) 1 = .ok (.aload_n 0, 1) := by decide +kernel
theorem d_Model_takeDraft_2 : decode (mC m_Model_takeDraft) 2 = .ok (.getfield 289, 3) := by decide +kernel
theorem d_Model_takeDraft_5 : decode (mC m_Model_takeDraft) 5 = .ok (.putfield 194, 3) := by decide +kernel
theorem d_Model_takeDraft_8 : decode (mC m_Model_takeDraft) 8 = .ok (.iconst 0, 1) := by decide +kernel
theorem d_Model_takeDraft_9 : decode (mC m_Model_takeDraft) 9 = .ok (.istore_n 1, 1) := by decide +kernel
theorem d_Model_takeDraft_10 : decode (mC m_Model_takeDraft) 10 = .ok (.iload_n 1, 1) := by decide +kernel
theorem d_Model_takeDraft_11 : decode (mC m_Model_takeDraft) 11 = .ok (.aload_n 0, 1) := by decide +kernel
theorem d_Model_takeDraft_12 : decode (mC m_Model_takeDraft) 12 = .ok (.getfield 194, 3) := by decide +kernel
theorem d_Model_takeDraft_15 : decode (mC m_Model_takeDraft) 15 = .ok (.if_icmp .ge 21, 3) := by decide +kernel
theorem d_Model_takeDraft_18 : decode (mC m_Model_takeDraft) 18 = .ok (.aload_n 0, 1) := by decide +kernel
theorem d_Model_takeDraft_19 : decode (mC m_Model_takeDraft) 19 = .ok (.getfield 13, 3) := by decide +kernel
theorem d_Model_takeDraft_22 : decode (mC m_Model_takeDraft) 22 = .ok (.iload_n 1, 1) := by decide +kernel
theorem d_Model_takeDraft_23 : decode (mC m_Model_takeDraft) 23 = .ok (.aload_n 0, 1) := by decide +kernel
theorem d_Model_takeDraft_24 : decode (mC m_Model_takeDraft) 24 = .ok (.getfield 67, 3) := by decide +kernel
theorem d_Model_takeDraft_27 : decode (mC m_Model_takeDraft) 27 = .ok (.iload_n 1, 1) := by decide +kernel
theorem d_Model_takeDraft_28 : decode (mC m_Model_takeDraft) 28 = .ok (.iaload, 1) := by decide +kernel
theorem d_Model_takeDraft_29 : decode (mC m_Model_takeDraft) 29 = .ok (.iastore, 1) := by decide +kernel
theorem d_Model_takeDraft_30 : decode (mC m_Model_takeDraft) 30 = .ok (.iinc 1 1, 3) := by decide +kernel
theorem d_Model_takeDraft_33 : decode (mC m_Model_takeDraft) 33 = .ok (.goto (-23), 3) := by decide +kernel
theorem d_Model_takeDraft_36 : decode (mC m_Model_takeDraft) 36 = .ok (.return_, 1) := by decide +kernel
def b_Model_takeDraft_10 (F : Nat) (K10 : Nat → Int32 → zW → Option (Unit × zW)) (v0 : Nat) (v1 : Int32) (w : zW) : Option (Unit × zW) := (getI w v0 9 3).bind fun x12 => if x12 ≤ v1 then (some ((), w)) else ((getR w v0 9 4).bind fun x19 => (getR w v0 9 32).bind fun x24 => (aget w x24 v1).bind fun x28 => (aset w x19 v1 x28).bind fun w29 => K10 v0 (v1 + (1 : Int32)) w29)
set_option maxRecDepth 100000 in
set_option maxHeartbeats 4000000 in
theorem b_Model_takeDraft_10_ok (G : zG) (F : Nat) (K10 : Nat → Int32 → zW → Option (Unit × zW)) (hK10 : ∀ (v0 : Nat) (v1 : Int32) (w : zW) (r : (Unit × zW)), K10 v0 v1 w = some r → zV G m_Model_takeDraft 10 [(0, .ref (z0 G + v0)), (1, .int v1)] [] w 0 0 (oV r.1) r.2) (v0 : Nat) (v1 : Int32) (w : zW) (r : (Unit × zW)) (h : b_Model_takeDraft_10 F K10 v0 v1 w = some r) : zV G m_Model_takeDraft 10 [(0, .ref (z0 G + v0)), (1, .int v1)] [] w 0 0 (oV r.1) r.2 := by
  unfold b_Model_takeDraft_10 at h
  refine V_iload_n (i := 1) d_Model_takeDraft_10 rfl 1 rfl ?_
  refine V_aload_n (i := 0) d_Model_takeDraft_11 rfl 0 rfl ?_
  obtain ⟨x12, e12, h⟩ := ob h
  refine V_getI (ci := 9) (k := 3) d_Model_takeDraft_12 e12 rfl (by decide) in_Model k885 ?_
  refine V_icmp_ge (tgt := 36) d_Model_takeDraft_15 (by decide) (fun c15 => ?_) (fun c15 => ?_)
  · rw [if_pos c15] at h
    obtain rfl := Option.some.inj h
    exact V_vret rfl (by decide) (by decide) d_Model_takeDraft_36
  · rw [if_neg c15] at h
    refine V_aload_n (i := 0) d_Model_takeDraft_18 rfl 0 rfl ?_
    obtain ⟨x19, e19, h⟩ := ob h
    refine V_getR (ci := 9) (k := 4) d_Model_takeDraft_19 e19 rfl (by decide) in_Model k886 ?_
    refine V_iload_n (i := 1) d_Model_takeDraft_22 rfl 1 rfl ?_
    refine V_aload_n (i := 0) d_Model_takeDraft_23 rfl 0 rfl ?_
    obtain ⟨x24, e24, h⟩ := ob h
    refine V_getR (ci := 9) (k := 32) d_Model_takeDraft_24 e24 rfl (by decide) in_Model k914 ?_
    refine V_iload_n (i := 1) d_Model_takeDraft_27 rfl 1 rfl ?_
    obtain ⟨x28, e28, h⟩ := ob h
    refine V_aget d_Model_takeDraft_28 e28 ?_
    obtain ⟨w29, e29, h⟩ := ob h
    refine V_aset d_Model_takeDraft_29 e29 ?_
    refine V_iinc (i := 1) (v := (v1 + (1 : Int32))) d_Model_takeDraft_30 1 rfl (congrArg (fun y => v1 + y) (by decide : Int32.ofInt (1) = (1 : Int32))) (by decide) rfl ?_
    refine V_goto (tgt := 10) d_Model_takeDraft_33 (by decide) ?_
    refine V_lv [1, 0] rfl ?_
    exact hK10 v0 (v1 + (1 : Int32)) w29 _ h
def l_Model_takeDraft_10 (F : Nat) : Nat → Nat → Int32 → zW → Option (Unit × zW)
  | 0 => fun _ _ _ => none
  | n + 1 => b_Model_takeDraft_10 F (l_Model_takeDraft_10 F n)
theorem l_Model_takeDraft_10_ok (G : zG) (F : Nat) (n : Nat) :  ∀ (v0 : Nat) (v1 : Int32) (w : zW) (r : (Unit × zW)), l_Model_takeDraft_10 F n v0 v1 w = some r → zV G m_Model_takeDraft 10 [(0, .ref (z0 G + v0)), (1, .int v1)] [] w 0 0 (oV r.1) r.2 := by
  induction n with
  | zero => intro v0 v1 w r h; exact nomatch (show (none : Option (Unit × zW)) = some r from h)
  | succ n ih => intro v0 v1 w r h; exact b_Model_takeDraft_10_ok G F (l_Model_takeDraft_10 F n) ih v0 v1 w r h
def b_Model_takeDraft_0 (F : Nat) (v0 : Nat) (w : zW) : Option (Unit × zW) := (getI w v0 9 31).bind fun x2 => (putI w v0 9 3 x2).bind fun w5 => l_Model_takeDraft_10 F F v0 (0 : Int32) w5
set_option maxRecDepth 100000 in
set_option maxHeartbeats 4000000 in
theorem b_Model_takeDraft_0_ok (G : zG) (F : Nat) (v0 : Nat) (w : zW) (r : (Unit × zW)) (h : b_Model_takeDraft_0 F v0 w = some r) : zV G m_Model_takeDraft 0 [(0, .ref (z0 G + v0))] [] w 0 0 (oV r.1) r.2 := by
  unfold b_Model_takeDraft_0 at h
  refine V_aload_n (i := 0) d_Model_takeDraft_0 rfl 0 rfl ?_
  refine V_aload_n (i := 0) d_Model_takeDraft_1 rfl 0 rfl ?_
  obtain ⟨x2, e2, h⟩ := ob h
  refine V_getI (ci := 9) (k := 31) d_Model_takeDraft_2 e2 rfl (by decide) in_Model k913 ?_
  obtain ⟨w5, e5, h⟩ := ob h
  refine V_putI (ci := 9) (k := 3) t_Model d_Model_takeDraft_5 e5 rfl (by decide) in_Model k885 ty_Model nm_Model rfl (Or.inl rfl) ?_
  refine V_iconst (v := 0) d_Model_takeDraft_8 (by decide) ?_
  refine V_istore_n (i := 1) d_Model_takeDraft_9 rfl (by decide) rfl ?_
  refine V_lv [1, 0] rfl ?_
  exact l_Model_takeDraft_10_ok G F F v0 (0 : Int32) w5 _ h
def f_Model_takeDraft (F : Nat) (v0 : Nat) (w : zW) : Option (Unit × zW) := b_Model_takeDraft_0 F v0 w
theorem c_Model_takeDraft (G : zG) (F : Nat) (v0 : Nat) (w : zW) (r : (Unit × zW)) (h : f_Model_takeDraft F v0 w = some r) : zCT G m_Model_takeDraft [.ref (z0 G + v0)] w (oV r.1) r.2 := zCT.ofV (by decide +kernel) (Or.inl ⟨kc_Model_takeDraft, rfl⟩) (Nat.le_of_ble_eq_true rfl) (b_Model_takeDraft_0_ok G F v0 w r h)

/-! ZipArrayModel.create()V -/
def m_Model_create : zM := (⟨R_Model, "create", "()V"⟩, prog_11_method_66_code, 1, none, [], { frames := 2, cells := 0, slots := 0, locals := 48 })
theorem k1235 : Cond.methodLink R_Model 301 (mY m_Model_putEnd) ∈ zTb := tb_at 1235 (by decide +kernel) rfl
theorem k1237 : Cond.instanceMethod (mY m_Model_putEnd) ∈ zTb := tb_at 1237 (by decide +kernel) rfl
theorem k1244 : Cond.methodLink R_Model 305 (mY m_Model_takeDraft) ∈ zTb := tb_at 1244 (by decide +kernel) rfl
theorem k1246 : Cond.instanceMethod (mY m_Model_takeDraft) ∈ zTb := tb_at 1246 (by decide +kernel) rfl
theorem kc_Model_create : Cond.code (mY m_Model_create) (mC m_Model_create) (mL m_Model_create) (mT m_Model_create) ∈ zTb := tb_at 1234 (by decide +kernel) rfl
theorem y_Model_create : (mY m_Model_create).cls ≠ "java/lang/invoke/MethodHandle" ∧ (mY m_Model_create).cls ≠ "java/lang/invoke/VarHandle" ∧ (parseMethodDescriptor (mY m_Model_create).desc).map (fun d => d.parameters.length) = some 0 := by decide +kernel
theorem d_Model_create_0 : decode (mC m_Model_create) 0 = .ok (.aload_n 0, 1) := by decide +kernel
theorem d_Model_create_1 : decode (mC m_Model_create) 1 = .ok (.iconst 0, 1) := by decide +kernel
theorem d_Model_create_2 : decode (mC m_Model_create) 2 = .ok (.putfield 70, 3) := by decide +kernel
theorem d_Model_create_5 : decode (mC m_Model_create) 5 = .ok (.aload_n 0, 1) := by decide +kernel
theorem d_Model_create_6 : decode (mC m_Model_create) 6 = .ok (.iconst 0, 1) := by decide +kernel
theorem d_Model_create_7 : decode (mC m_Model_create) 7 = .ok (.putfield 289, 3) := by decide +kernel
theorem d_Model_create_10 : decode (mC m_Model_create) 10 = .ok (.aload_n 0, 1) := by decide +kernel
theorem d_Model_create_11 : decode (mC m_Model_create) 11 = .ok (.iconst 0, 1) := by decide +kernel
theorem d_Model_create_12 : decode (mC m_Model_create) 12 = .ok (.iconst 0, 1) := by decide +kernel
theorem d_Model_create_13 : decode (mC m_Model_create) 13 = .ok (.iconst 0, 1) := by decide +kernel
theorem d_Model_create_14 : decode (mC m_Model_create) 14 = .ok (.invokevirtual 301, 3) := by decide +kernel
theorem d_Model_create_17 : decode (mC m_Model_create) 17 = .ok (.aload_n 0, 1) := by decide +kernel
theorem d_Model_create_18 : decode (mC m_Model_create) 18 = .ok (.invokevirtual 305, 3) := by decide +kernel
theorem d_Model_create_21 : decode (mC m_Model_create) 21 = .ok (.return_, 1) := by decide +kernel
def b_Model_create_0 (F : Nat) (v0 : Nat) (w : zW) : Option (Unit × zW) := (putI w v0 9 0 (0 : Int32)).bind fun w2 => (putI w2 v0 9 31 (0 : Int32)).bind fun w7 => (zobj w7 v0 9).bind fun _ => (f_Model_putEnd F v0 (0 : Int32) (0 : Int32) (0 : Int32) w7).bind fun r14 => (zobj r14.2 v0 9).bind fun _ => (f_Model_takeDraft F v0 r14.2).bind fun r18 => some ((), r18.2)
set_option maxRecDepth 100000 in
set_option maxHeartbeats 4000000 in
theorem b_Model_create_0_ok (G : zG) (F : Nat) (v0 : Nat) (w : zW) (r : (Unit × zW)) (h : b_Model_create_0 F v0 w = some r) : zV G m_Model_create 0 [(0, .ref (z0 G + v0))] [] w 0 0 (oV r.1) r.2 := by
  unfold b_Model_create_0 at h
  refine V_aload_n (i := 0) d_Model_create_0 rfl 0 rfl ?_
  refine V_iconst (v := 0) d_Model_create_1 (by decide) ?_
  obtain ⟨w2, e2, h⟩ := ob h
  refine V_putI (ci := 9) (k := 0) t_Model d_Model_create_2 e2 rfl (by decide) in_Model k882 ty_Model nm_Model rfl (Or.inl rfl) ?_
  refine V_aload_n (i := 0) d_Model_create_5 rfl 0 rfl ?_
  refine V_iconst (v := 0) d_Model_create_6 (by decide) ?_
  obtain ⟨w7, e7, h⟩ := ob h
  refine V_putI (ci := 9) (k := 31) t_Model d_Model_create_7 e7 rfl (by decide) in_Model k913 ty_Model nm_Model rfl (Or.inl rfl) ?_
  refine V_aload_n (i := 0) d_Model_create_10 rfl 0 rfl ?_
  refine V_iconst (v := 0) d_Model_create_11 (by decide) ?_
  refine V_iconst (v := 0) d_Model_create_12 (by decide) ?_
  refine V_iconst (v := 0) d_Model_create_13 (by decide) ?_
  obtain ⟨_, eo14, h⟩ := ob h
  obtain ⟨r14, e14, h⟩ := ob h
  refine V_call (v := none) (st := []) (inv_V (N := m_Model_putEnd) (As := [.int (0 : Int32), .int (0 : Int32), .int (0 : Int32)]) (ci := 9) d_Model_create_14 eo14 rfl k1235 k1237 sel_Model_putEnd kc_Model_putEnd y_Model_putEnd) ⟨Or.inl kc_Model_putEnd, k10, by decide, by decide⟩ (Nat.le_of_ble_eq_true rfl) (by decide) (by decide) (c_Model_putEnd G F v0 (0 : Int32) (0 : Int32) (0 : Int32) w7 r14 e14) ?_
  refine V_aload_n (i := 0) d_Model_create_17 rfl 0 rfl ?_
  obtain ⟨_, eo18, h⟩ := ob h
  obtain ⟨r18, e18, h⟩ := ob h
  refine V_call (v := none) (st := []) (inv_V (N := m_Model_takeDraft) (As := []) (ci := 9) d_Model_create_18 eo18 rfl k1244 k1246 sel_Model_takeDraft kc_Model_takeDraft y_Model_takeDraft) ⟨Or.inl kc_Model_takeDraft, k10, by decide, by decide⟩ (Nat.le_of_ble_eq_true rfl) (by decide) (by decide) (c_Model_takeDraft G F v0 r14.2 r18 e18) ?_
  obtain rfl := Option.some.inj h
  exact V_vret rfl (by decide) (by decide) d_Model_create_21
def f_Model_create (F : Nat) (v0 : Nat) (w : zW) : Option (Unit × zW) := b_Model_create_0 F v0 w
theorem c_Model_create (G : zG) (F : Nat) (v0 : Nat) (w : zW) (r : (Unit × zW)) (h : f_Model_create F v0 w = some r) : zCT G m_Model_create [.ref (z0 G + v0)] w (oV r.1) r.2 := zCT.ofV (by decide +kernel) (Or.inl ⟨kc_Model_create, rfl⟩) (Nat.le_of_ble_eq_true rfl) (b_Model_create_0_ok G F v0 w r h)

/-! ZipArrayModel.wide(Z)V -/
def m_Model_wide : zM := (⟨R_Model, "wide", "(Z)V"⟩, prog_11_method_67_code, 2, none, [], { frames := 0, cells := 0, slots := 0, locals := 0 })
theorem kc_Model_wide : Cond.code (mY m_Model_wide) (mC m_Model_wide) (mL m_Model_wide) (mT m_Model_wide) ∈ zTb := tb_at 1251 (by decide +kernel) rfl
theorem y_Model_wide : (mY m_Model_wide).cls ≠ "java/lang/invoke/MethodHandle" ∧ (mY m_Model_wide).cls ≠ "java/lang/invoke/VarHandle" ∧ (parseMethodDescriptor (mY m_Model_wide).desc).map (fun d => d.parameters.length) = some 1 := by decide +kernel
theorem d_Model_wide_0 : decode (mC m_Model_wide) 0 = .ok (.aload_n 0, 1) := by decide +kernel
theorem d_Model_wide_1 : decode (mC m_Model_wide) 1 = .ok (.iconst 0, 1) := by decide +kernel
theorem d_Model_wide_2 : decode (mC m_Model_wide) 2 = .ok (.putfield 70, 3) := by decide +kernel
theorem d_Model_wide_5 : decode (mC m_Model_wide) 5 = .ok (.aload_n 0, 1) := by decide +kernel
theorem d_Model_wide_6 : decode (mC m_Model_wide) 6 = .ok (.iload_n 1, 1) := by decide +kernel
theorem d_Model_wide_7 : decode (mC m_Model_wide) 7 = .ok (.putfield 292, 3) := by decide +kernel
theorem d_Model_wide_10 : decode (mC m_Model_wide) 10 = .ok (.return_, 1) := by decide +kernel
def b_Model_wide_0 (F : Nat) (v0 : Nat) (v1 : Int32) (w : zW) : Option (Unit × zW) := (putI w v0 9 0 (0 : Int32)).bind fun w2 => if v1 = 0 ∨ v1 = 1 then (putI w2 v0 9 5 v1).bind fun w7 => some ((), w7) else none
set_option maxRecDepth 100000 in
set_option maxHeartbeats 4000000 in
theorem b_Model_wide_0_ok (G : zG) (F : Nat) (v0 : Nat) (v1 : Int32) (w : zW) (r : (Unit × zW)) (h : b_Model_wide_0 F v0 v1 w = some r) : zV G m_Model_wide 0 [(0, .ref (z0 G + v0)), (1, .int v1)] [] w 0 0 (oV r.1) r.2 := by
  unfold b_Model_wide_0 at h
  refine V_aload_n (i := 0) d_Model_wide_0 rfl 0 rfl ?_
  refine V_iconst (v := 0) d_Model_wide_1 (by decide) ?_
  obtain ⟨w2, e2, h⟩ := ob h
  refine V_putI (ci := 9) (k := 0) t_Model d_Model_wide_2 e2 rfl (by decide) in_Model k882 ty_Model nm_Model rfl (Or.inl rfl) ?_
  refine V_aload_n (i := 0) d_Model_wide_5 rfl 0 rfl ?_
  refine V_iload_n (i := 1) d_Model_wide_6 rfl 1 rfl ?_
  by_cases g7 : ¬ (v1 = 0 ∨ v1 = 1)
  · exact absurd h (by rw [if_neg g7]; exact nofun)
  have g7 := Classical.not_not.mp g7
  rw [if_pos g7] at h
  obtain ⟨w7, e7, h⟩ := ob h
  refine V_putI (ci := 9) (k := 5) t_Model d_Model_wide_7 e7 rfl (by decide) in_Model k887 ty_Model nm_Model rfl (Or.inr ⟨rfl, g7⟩) ?_
  obtain rfl := Option.some.inj h
  exact V_vret rfl (by decide) (by decide) d_Model_wide_10
def f_Model_wide (F : Nat) (v0 : Nat) (v1 : Int32) (w : zW) : Option (Unit × zW) := b_Model_wide_0 F v0 v1 w
theorem c_Model_wide (G : zG) (F : Nat) (v0 : Nat) (v1 : Int32) (w : zW) (r : (Unit × zW)) (h : f_Model_wide F v0 v1 w = some r) : zCT G m_Model_wide [.ref (z0 G + v0), .int v1] w (oV r.1) r.2 := zCT.ofV (by decide +kernel) (Or.inl ⟨kc_Model_wide, rfl⟩) (Nat.le_of_ble_eq_true rfl) (b_Model_wide_0_ok G F v0 v1 w r h)

/-! ZipArrayModel.bytesOf(I)I -/
def m_Model_bytesOf : zM := (⟨R_Model, "bytesOf", "(I)I"⟩, prog_11_method_68_code, 1, (some .int), [], { frames := 0, cells := 0, slots := 0, locals := 0 })
theorem k1263 : Cond.constant R_Model 308 65536 ∈ zTb := tb_at 1263 (by decide +kernel) rfl
theorem kc_Model_bytesOf : Cond.code (mY m_Model_bytesOf) (mC m_Model_bytesOf) (mL m_Model_bytesOf) (mT m_Model_bytesOf) ∈ zTb := tb_at 1262 (by decide +kernel) rfl
theorem y_Model_bytesOf : (mY m_Model_bytesOf).cls ≠ "java/lang/invoke/MethodHandle" ∧ (mY m_Model_bytesOf).cls ≠ "java/lang/invoke/VarHandle" ∧ (parseMethodDescriptor (mY m_Model_bytesOf).desc).map (fun d => d.parameters.length) = some 1 := by decide +kernel
theorem d_Model_bytesOf_0 : decode (mC m_Model_bytesOf) 0 = .ok (.iload_n 0, 1) := by decide +kernel
theorem d_Model_bytesOf_1 : decode (mC m_Model_bytesOf) 1 = .ok (.sipush 256, 3) := by decide +kernel
theorem d_Model_bytesOf_4 : decode (mC m_Model_bytesOf) 4 = .ok (.if_icmp .ge 7, 3) := by decide +kernel
theorem d_Model_bytesOf_7 : decode (mC m_Model_bytesOf) 7 = .ok (.iconst 1, 1) := by decide +kernel
theorem d_Model_bytesOf_8 : decode (mC m_Model_bytesOf) 8 = .ok (.goto 15, 3) := by decide +kernel
theorem d_Model_bytesOf_11 : decode (mC m_Model_bytesOf) 11 = .ok (.iload_n 0, 1) := by decide +kernel
theorem d_Model_bytesOf_12 : decode (mC m_Model_bytesOf) 12 = .ok (.ldc_w 308, 3) := by decide +kernel
theorem d_Model_bytesOf_15 : decode (mC m_Model_bytesOf) 15 = .ok (.if_icmp .ge 7, 3) := by decide +kernel
theorem d_Model_bytesOf_18 : decode (mC m_Model_bytesOf) 18 = .ok (.iconst 2, 1) := by decide +kernel
theorem d_Model_bytesOf_19 : decode (mC m_Model_bytesOf) 19 = .ok (.goto 4, 3) := by decide +kernel
theorem d_Model_bytesOf_22 : decode (mC m_Model_bytesOf) 22 = .ok (.iconst 3, 1) := by decide +kernel
theorem d_Model_bytesOf_23 : decode (mC m_Model_bytesOf) 23 = .ok (.ireturn, 1) := by decide +kernel
def b_Model_bytesOf_0 (F : Nat) (v0 : Int32) (w : zW) : Option (Int32 × zW) := if (256 : Int32) ≤ v0 then (if (65536 : Int32) ≤ v0 then (some ((3 : Int32), w)) else (some ((2 : Int32), w))) else (some ((1 : Int32), w))
set_option maxRecDepth 100000 in
set_option maxHeartbeats 4000000 in
theorem b_Model_bytesOf_0_ok (G : zG) (F : Nat) (v0 : Int32) (w : zW) (r : (Int32 × zW)) (h : b_Model_bytesOf_0 F v0 w = some r) : zV G m_Model_bytesOf 0 [(0, .int v0)] [] w 0 0 (oI r.1) r.2 := by
  unfold b_Model_bytesOf_0 at h
  refine V_iload_n (i := 0) d_Model_bytesOf_0 rfl 0 rfl ?_
  refine V_sipush (v := 256) d_Model_bytesOf_1 (by decide) ?_
  refine V_icmp_ge (tgt := 11) d_Model_bytesOf_4 (by decide) (fun c4 => ?_) (fun c4 => ?_)
  · rw [if_pos c4] at h
    refine V_iload_n (i := 0) d_Model_bytesOf_11 rfl 0 rfl ?_
    refine V_ldcw (v := 65536) d_Model_bytesOf_12 k1263 ?_
    refine V_icmp_ge (tgt := 22) d_Model_bytesOf_15 (by decide) (fun c15 => ?_) (fun c15 => ?_)
    · rw [if_pos c15] at h
      refine V_iconst (v := 3) d_Model_bytesOf_22 (by decide) ?_
      obtain rfl := Option.some.inj h
      exact V_iret rfl (by decide) (by decide) d_Model_bytesOf_23
    · rw [if_neg c15] at h
      refine V_iconst (v := 2) d_Model_bytesOf_18 (by decide) ?_
      refine V_goto (tgt := 23) d_Model_bytesOf_19 (by decide) ?_
      obtain rfl := Option.some.inj h
      exact V_iret rfl (by decide) (by decide) d_Model_bytesOf_23
  · rw [if_neg c4] at h
    refine V_iconst (v := 1) d_Model_bytesOf_7 (by decide) ?_
    refine V_goto (tgt := 23) d_Model_bytesOf_8 (by decide) ?_
    obtain rfl := Option.some.inj h
    exact V_iret rfl (by decide) (by decide) d_Model_bytesOf_23
def f_Model_bytesOf (F : Nat) (v0 : Int32) (w : zW) : Option (Int32 × zW) := b_Model_bytesOf_0 F v0 w
theorem c_Model_bytesOf (G : zG) (F : Nat) (v0 : Int32) (w : zW) (r : (Int32 × zW)) (h : f_Model_bytesOf F v0 w = some r) : zCT G m_Model_bytesOf [.int v0] w (oI r.1) r.2 := zCT.ofV (by decide +kernel) (Or.inl ⟨kc_Model_bytesOf, rfl⟩) (Nat.le_of_ble_eq_true rfl) (b_Model_bytesOf_0_ok G F v0 w r h)

/-! ZipArrayModel.isName(I)Z -/
def m_Model_isName : zM := (⟨R_Model, "isName", "(I)Z"⟩, prog_11_method_69_code, 3, (some .boolean), [], { frames := 1, cells := 0, slots := 0, locals := 25 })
theorem k1259 : Cond.constantLong R_Model 309 16777215 ∈ zTb := tb_at 1259 (by decide +kernel) rfl
theorem k1260 : Cond.methodLink R_Model 311 (mY m_Model_bytesOf) ∈ zTb := tb_at 1260 (by decide +kernel) rfl
theorem k1261 : Cond.static (mY m_Model_bytesOf) ∈ zTb := tb_at 1261 (by decide +kernel) rfl
theorem k1264 : Cond.constantLong R_Model 314 33 ∈ zTb := tb_at 1264 (by decide +kernel) rfl
theorem k1265 : Cond.constantLong R_Model 316 126 ∈ zTb := tb_at 1265 (by decide +kernel) rfl
theorem kc_Model_isName : Cond.code (mY m_Model_isName) (mC m_Model_isName) (mL m_Model_isName) (mT m_Model_isName) ∈ zTb := tb_at 1258 (by decide +kernel) rfl
theorem y_Model_isName : (mY m_Model_isName).cls ≠ "java/lang/invoke/MethodHandle" ∧ (mY m_Model_isName).cls ≠ "java/lang/invoke/VarHandle" ∧ (parseMethodDescriptor (mY m_Model_isName).desc).map (fun d => d.parameters.length) = some 1 := by decide +kernel
theorem d_Model_isName_0 : decode (mC m_Model_isName) 0 = .ok (.iload_n 0, 1) := by decide +kernel
theorem d_Model_isName_1 : decode (mC m_Model_isName) 1 = .ok (.i2l, 1) := by decide +kernel
theorem d_Model_isName_2 : decode (mC m_Model_isName) 2 = .ok (.lconst 1, 1) := by decide +kernel
theorem d_Model_isName_3 : decode (mC m_Model_isName) 3 = .ok (.ldc2_w 309, 3) := by decide +kernel
theorem d_Model_isName_6 : decode (mC m_Model_isName) 6 = .ok (.invokestatic 87, 3) := by decide +kernel
theorem d_Model_isName_9 : decode (mC m_Model_isName) 9 = .ok (.istore_n 1, 1) := by decide +kernel
theorem d_Model_isName_10 : decode (mC m_Model_isName) 10 = .ok (.iconst 0, 1) := by decide +kernel
theorem d_Model_isName_11 : decode (mC m_Model_isName) 11 = .ok (.istore_n 2, 1) := by decide +kernel
theorem d_Model_isName_12 : decode (mC m_Model_isName) 12 = .ok (.iload_n 2, 1) := by decide +kernel
theorem d_Model_isName_13 : decode (mC m_Model_isName) 13 = .ok (.iload_n 0, 1) := by decide +kernel
theorem d_Model_isName_14 : decode (mC m_Model_isName) 14 = .ok (.invokestatic 311, 3) := by decide +kernel
theorem d_Model_isName_17 : decode (mC m_Model_isName) 17 = .ok (.if_icmp .ge 34, 3) := by decide +kernel
theorem d_Model_isName_20 : decode (mC m_Model_isName) 20 = .ok (.iload_n 1, 1) := by decide +kernel
theorem d_Model_isName_21 : decode (mC m_Model_isName) 21 = .ok (.ifCond .eq 30, 3) := by decide +kernel
theorem d_Model_isName_24 : decode (mC m_Model_isName) 24 = .ok (.iload_n 0, 1) := by decide +kernel
theorem d_Model_isName_25 : decode (mC m_Model_isName) 25 = .ok (.bipush 8, 2) := by decide +kernel
theorem d_Model_isName_27 : decode (mC m_Model_isName) 27 = .ok (.iload_n 2, 1) := by decide +kernel
theorem d_Model_isName_28 : decode (mC m_Model_isName) 28 = .ok (.imul, 1) := by decide +kernel
theorem d_Model_isName_29 : decode (mC m_Model_isName) 29 = .ok (.ishr, 1) := by decide +kernel
theorem d_Model_isName_30 : decode (mC m_Model_isName) 30 = .ok (.sipush 255, 3) := by decide +kernel
theorem d_Model_isName_33 : decode (mC m_Model_isName) 33 = .ok (.iand, 1) := by decide +kernel
theorem d_Model_isName_34 : decode (mC m_Model_isName) 34 = .ok (.i2l, 1) := by decide +kernel
theorem d_Model_isName_35 : decode (mC m_Model_isName) 35 = .ok (.ldc2_w 314, 3) := by decide +kernel
theorem d_Model_isName_38 : decode (mC m_Model_isName) 38 = .ok (.ldc2_w 316, 3) := by decide +kernel
theorem d_Model_isName_41 : decode (mC m_Model_isName) 41 = .ok (.invokestatic 87, 3) := by decide +kernel
theorem d_Model_isName_44 : decode (mC m_Model_isName) 44 = .ok (.istore_n 1, 1) := by decide +kernel
theorem d_Model_isName_45 : decode (mC m_Model_isName) 45 = .ok (.iinc 2 1, 3) := by decide +kernel
theorem d_Model_isName_48 : decode (mC m_Model_isName) 48 = .ok (.goto (-36), 3) := by decide +kernel
theorem d_Model_isName_51 : decode (mC m_Model_isName) 51 = .ok (.iload_n 1, 1) := by decide +kernel
theorem d_Model_isName_52 : decode (mC m_Model_isName) 52 = .ok (.ireturn, 1) := by decide +kernel
def b_Model_isName_51 (F : Nat) (v1 : Int32) (w : zW) : Option (Int32 × zW) := if v1 = 0 ∨ v1 = 1 then some (v1, w) else none
set_option maxRecDepth 100000 in
set_option maxHeartbeats 4000000 in
theorem b_Model_isName_51_ok (G : zG) (F : Nat) (v1 : Int32) (w : zW) (r : (Int32 × zW)) (h : b_Model_isName_51 F v1 w = some r) : zV G m_Model_isName 51 [(1, .int v1)] [] w 0 0 (oI r.1) r.2 := by
  unfold b_Model_isName_51 at h
  refine V_iload_n (i := 1) d_Model_isName_51 rfl 0 rfl ?_
  by_cases g52 : ¬ (v1 = 0 ∨ v1 = 1)
  · exact absurd h (by rw [if_neg g52]; exact nofun)
  have g52 := Classical.not_not.mp g52
  rw [if_pos g52] at h
  obtain rfl := Option.some.inj h
  exact V_zret rfl g52 (by decide) (by decide) d_Model_isName_52
def b_Model_isName_12 (F : Nat) (K12 : Int32 → Int32 → Int32 → zW → Option (Int32 × zW)) (v0 : Int32) (v1 : Int32) (v2 : Int32) (w : zW) : Option (Int32 × zW) := (f_Model_bytesOf F v0 w).bind fun r14 => if r14.1 ≤ v2 then (b_Model_isName_51 F v1 r14.2) else (if v1 = 0 then (b_Model_isName_51 F v1 r14.2) else ((f_Model_within F ((v0 >>> (((8 : Int32) * v2) &&& 31)) &&& (255 : Int32)).toInt64 (33 : Int64) (126 : Int64) r14.2).bind fun r41 => K12 v0 r41.1 (v2 + (1 : Int32)) r41.2))
set_option maxRecDepth 100000 in
set_option maxHeartbeats 4000000 in
theorem b_Model_isName_12_ok (G : zG) (F : Nat) (K12 : Int32 → Int32 → Int32 → zW → Option (Int32 × zW)) (hK12 : ∀ (v0 : Int32) (v1 : Int32) (v2 : Int32) (w : zW) (r : (Int32 × zW)), K12 v0 v1 v2 w = some r → zV G m_Model_isName 12 [(0, .int v0), (1, .int v1), (2, .int v2)] [] w 0 0 (oI r.1) r.2) (v0 : Int32) (v1 : Int32) (v2 : Int32) (w : zW) (r : (Int32 × zW)) (h : b_Model_isName_12 F K12 v0 v1 v2 w = some r) : zV G m_Model_isName 12 [(0, .int v0), (1, .int v1), (2, .int v2)] [] w 0 0 (oI r.1) r.2 := by
  unfold b_Model_isName_12 at h
  refine V_iload_n (i := 2) d_Model_isName_12 rfl 2 rfl ?_
  refine V_iload_n (i := 0) d_Model_isName_13 rfl 0 rfl ?_
  obtain ⟨r14, e14, h⟩ := ob h
  refine V_call (v := some (.int r14.1)) (st := [.int v2]) (inv_S (N := m_Model_bytesOf) (As := [.int v0]) d_Model_isName_14 k1260 k1261 k10 (Or.inl kc_Model_bytesOf) y_Model_bytesOf) ⟨Or.inl kc_Model_bytesOf, k10, by decide, by decide⟩ (Nat.le_of_ble_eq_true rfl) (by decide) (by decide) (c_Model_bytesOf G F v0 w r14 e14) ?_
  refine V_icmp_ge (tgt := 51) d_Model_isName_17 (by decide) (fun c17 => ?_) (fun c17 => ?_)
  · rw [if_pos c17] at h
    refine V_lv [1] rfl ?_
    exact b_Model_isName_51_ok G F v1 r14.2 _ h
  · rw [if_neg c17] at h
    refine V_iload_n (i := 1) d_Model_isName_20 rfl 1 rfl ?_
    refine V_if_eq (tgt := 51) d_Model_isName_21 (by decide) (fun c21 => ?_) (fun c21 => ?_)
    · rw [if_pos c21] at h
      refine V_lv [1] rfl ?_
      exact b_Model_isName_51_ok G F v1 r14.2 _ h
    · rw [if_neg c21] at h
      refine V_iload_n (i := 0) d_Model_isName_24 rfl 0 rfl ?_
      refine V_bipush (v := 8) d_Model_isName_25 (by decide) ?_
      refine V_iload_n (i := 2) d_Model_isName_27 rfl 2 rfl ?_
      refine V_imul d_Model_isName_28 ?_
      refine V_ishr d_Model_isName_29 ?_
      refine V_sipush (v := 255) d_Model_isName_30 (by decide) ?_
      refine V_iand d_Model_isName_33 ?_
      refine V_i2l d_Model_isName_34 ?_
      refine V_ldc2 (v := 33) d_Model_isName_35 k1264 ?_
      refine V_ldc2 (v := 126) d_Model_isName_38 k1265 ?_
      obtain ⟨r41, e41, h⟩ := ob h
      refine V_call (v := some (.int r41.1)) (st := []) (inv_S (N := m_Model_within) (As := [.long ((v0 >>> (((8 : Int32) * v2) &&& 31)) &&& (255 : Int32)).toInt64, .long (33 : Int64), .long (126 : Int64)]) d_Model_isName_41 k995 k996 k10 (Or.inl kc_Model_within) y_Model_within) ⟨Or.inl kc_Model_within, k10, by decide, by decide⟩ (Nat.le_of_ble_eq_true rfl) (by decide) (by decide) (c_Model_within G F ((v0 >>> (((8 : Int32) * v2) &&& 31)) &&& (255 : Int32)).toInt64 (33 : Int64) (126 : Int64) r14.2 r41 e41) ?_
      refine V_istore_n (i := 1) d_Model_isName_44 rfl (by decide) rfl ?_
      refine V_iinc (i := 2) (v := (v2 + (1 : Int32))) d_Model_isName_45 2 rfl (congrArg (fun y => v2 + y) (by decide : Int32.ofInt (1) = (1 : Int32))) (by decide) rfl ?_
      refine V_goto (tgt := 12) d_Model_isName_48 (by decide) ?_
      refine V_lv [2, 1, 0] rfl ?_
      exact hK12 v0 r41.1 (v2 + (1 : Int32)) r41.2 _ h
def l_Model_isName_12 (F : Nat) : Nat → Int32 → Int32 → Int32 → zW → Option (Int32 × zW)
  | 0 => fun _ _ _ _ => none
  | n + 1 => b_Model_isName_12 F (l_Model_isName_12 F n)
theorem l_Model_isName_12_ok (G : zG) (F : Nat) (n : Nat) :  ∀ (v0 : Int32) (v1 : Int32) (v2 : Int32) (w : zW) (r : (Int32 × zW)), l_Model_isName_12 F n v0 v1 v2 w = some r → zV G m_Model_isName 12 [(0, .int v0), (1, .int v1), (2, .int v2)] [] w 0 0 (oI r.1) r.2 := by
  induction n with
  | zero => intro v0 v1 v2 w r h; exact nomatch (show (none : Option (Int32 × zW)) = some r from h)
  | succ n ih => intro v0 v1 v2 w r h; exact b_Model_isName_12_ok G F (l_Model_isName_12 F n) ih v0 v1 v2 w r h
def b_Model_isName_0 (F : Nat) (v0 : Int32) (w : zW) : Option (Int32 × zW) := (f_Model_within F v0.toInt64 (1 : Int64) (16777215 : Int64) w).bind fun r6 => l_Model_isName_12 F F v0 r6.1 (0 : Int32) r6.2
set_option maxRecDepth 100000 in
set_option maxHeartbeats 4000000 in
theorem b_Model_isName_0_ok (G : zG) (F : Nat) (v0 : Int32) (w : zW) (r : (Int32 × zW)) (h : b_Model_isName_0 F v0 w = some r) : zV G m_Model_isName 0 [(0, .int v0)] [] w 0 0 (oI r.1) r.2 := by
  unfold b_Model_isName_0 at h
  refine V_iload_n (i := 0) d_Model_isName_0 rfl 0 rfl ?_
  refine V_i2l d_Model_isName_1 ?_
  refine V_lconst (v := 1) d_Model_isName_2 (by decide) ?_
  refine V_ldc2 (v := 16777215) d_Model_isName_3 k1259 ?_
  obtain ⟨r6, e6, h⟩ := ob h
  refine V_call (v := some (.int r6.1)) (st := []) (inv_S (N := m_Model_within) (As := [.long v0.toInt64, .long (1 : Int64), .long (16777215 : Int64)]) d_Model_isName_6 k995 k996 k10 (Or.inl kc_Model_within) y_Model_within) ⟨Or.inl kc_Model_within, k10, by decide, by decide⟩ (Nat.le_of_ble_eq_true rfl) (by decide) (by decide) (c_Model_within G F v0.toInt64 (1 : Int64) (16777215 : Int64) w r6 e6) ?_
  refine V_istore_n (i := 1) d_Model_isName_9 rfl (by decide) rfl ?_
  refine V_iconst (v := 0) d_Model_isName_10 (by decide) ?_
  refine V_istore_n (i := 2) d_Model_isName_11 rfl (by decide) rfl ?_
  refine V_lv [2, 1, 0] rfl ?_
  exact l_Model_isName_12_ok G F F v0 r6.1 (0 : Int32) r6.2 _ h
def f_Model_isName (F : Nat) (v0 : Int32) (w : zW) : Option (Int32 × zW) := b_Model_isName_0 F v0 w
theorem c_Model_isName (G : zG) (F : Nat) (v0 : Int32) (w : zW) (r : (Int32 × zW)) (h : f_Model_isName F v0 w = some r) : zCT G m_Model_isName [.int v0] w (oI r.1) r.2 := zCT.ofV (by decide +kernel) (Or.inl ⟨kc_Model_isName, rfl⟩) (Nat.le_of_ble_eq_true rfl) (b_Model_isName_0_ok G F v0 w r h)

/-! ZipArrayModel.putName(I)V -/
def m_Model_putName : zM := (⟨R_Model, "putName", "(I)V"⟩, prog_11_method_70_code, 3, none, [], { frames := 1, cells := 0, slots := 0, locals := 24 })
theorem kc_Model_putName : Cond.code (mY m_Model_putName) (mC m_Model_putName) (mL m_Model_putName) (mT m_Model_putName) ∈ zTb := tb_at 1290 (by decide +kernel) rfl
theorem y_Model_putName : (mY m_Model_putName).cls ≠ "java/lang/invoke/MethodHandle" ∧ (mY m_Model_putName).cls ≠ "java/lang/invoke/VarHandle" ∧ (parseMethodDescriptor (mY m_Model_putName).desc).map (fun d => d.parameters.length) = some 1 := by decide +kernel
theorem sel_Model_putName : Cond.selects R_Model (mY m_Model_putName) (mY m_Model_putName) ∈ zTb := sel_at (y := mY m_Model_putName) (n := 33) 86 (by decide +kernel)
theorem d_Model_putName_0 : decode (mC m_Model_putName) 0 = .ok (.iload_n 1, 1) := by decide +kernel
theorem d_Model_putName_1 : decode (mC m_Model_putName) 1 = .ok (.invokestatic 311, 3) := by decide +kernel
theorem d_Model_putName_4 : decode (mC m_Model_putName) 4 = .ok (.iconst 1, 1) := by decide +kernel
theorem d_Model_putName_5 : decode (mC m_Model_putName) 5 = .ok (.isub, 1) := by decide +kernel
theorem d_Model_putName_6 : decode (mC m_Model_putName) 6 = .ok (.istore_n 2, 1) := by decide +kernel
theorem d_Model_putName_7 : decode (mC m_Model_putName) 7 = .ok (.iload_n 2, 1) := by decide +kernel
theorem d_Model_putName_8 : decode (mC m_Model_putName) 8 = .ok (.ifCond .lt 21, 3) := by decide +kernel
theorem d_Model_putName_11 : decode (mC m_Model_putName) 11 = .ok (.aload_n 0, 1) := by decide +kernel
theorem d_Model_putName_12 : decode (mC m_Model_putName) 12 = .ok (.iload_n 1, 1) := by decide +kernel
theorem d_Model_putName_13 : decode (mC m_Model_putName) 13 = .ok (.bipush 8, 2) := by decide +kernel
theorem d_Model_putName_15 : decode (mC m_Model_putName) 15 = .ok (.iload_n 2, 1) := by decide +kernel
theorem d_Model_putName_16 : decode (mC m_Model_putName) 16 = .ok (.imul, 1) := by decide +kernel
theorem d_Model_putName_17 : decode (mC m_Model_putName) 17 = .ok (.ishr, 1) := by decide +kernel
theorem d_Model_putName_18 : decode (mC m_Model_putName) 18 = .ok (.i2l, 1) := by decide +kernel
theorem d_Model_putName_19 : decode (mC m_Model_putName) 19 = .ok (.iconst 1, 1) := by decide +kernel
theorem d_Model_putName_20 : decode (mC m_Model_putName) 20 = .ok (.invokevirtual 295, 3) := by decide +kernel
theorem d_Model_putName_23 : decode (mC m_Model_putName) 23 = .ok (.iinc 2 (-1), 3) := by decide +kernel
theorem d_Model_putName_26 : decode (mC m_Model_putName) 26 = .ok (.goto (-19), 3) := by decide +kernel
theorem d_Model_putName_29 : decode (mC m_Model_putName) 29 = .ok (.return_, 1) := by decide +kernel
def b_Model_putName_7 (F : Nat) (K7 : Nat → Int32 → Int32 → zW → Option (Unit × zW)) (v0 : Nat) (v1 : Int32) (v2 : Int32) (w : zW) : Option (Unit × zW) := if v2 < 0 then (some ((), w)) else ((zobj w v0 9).bind fun _ => (f_Model_lay F v0 (v1 >>> (((8 : Int32) * v2) &&& 31)).toInt64 (1 : Int32) w).bind fun r20 => K7 v0 v1 (v2 + (-1 : Int32)) r20.2)
set_option maxRecDepth 100000 in
set_option maxHeartbeats 4000000 in
theorem b_Model_putName_7_ok (G : zG) (F : Nat) (K7 : Nat → Int32 → Int32 → zW → Option (Unit × zW)) (hK7 : ∀ (v0 : Nat) (v1 : Int32) (v2 : Int32) (w : zW) (r : (Unit × zW)), K7 v0 v1 v2 w = some r → zV G m_Model_putName 7 [(0, .ref (z0 G + v0)), (1, .int v1), (2, .int v2)] [] w 0 0 (oV r.1) r.2) (v0 : Nat) (v1 : Int32) (v2 : Int32) (w : zW) (r : (Unit × zW)) (h : b_Model_putName_7 F K7 v0 v1 v2 w = some r) : zV G m_Model_putName 7 [(0, .ref (z0 G + v0)), (1, .int v1), (2, .int v2)] [] w 0 0 (oV r.1) r.2 := by
  unfold b_Model_putName_7 at h
  refine V_iload_n (i := 2) d_Model_putName_7 rfl 2 rfl ?_
  refine V_if_lt (tgt := 29) d_Model_putName_8 (by decide) (fun c8 => ?_) (fun c8 => ?_)
  · rw [if_pos c8] at h
    obtain rfl := Option.some.inj h
    exact V_vret rfl (by decide) (by decide) d_Model_putName_29
  · rw [if_neg c8] at h
    refine V_aload_n (i := 0) d_Model_putName_11 rfl 0 rfl ?_
    refine V_iload_n (i := 1) d_Model_putName_12 rfl 1 rfl ?_
    refine V_bipush (v := 8) d_Model_putName_13 (by decide) ?_
    refine V_iload_n (i := 2) d_Model_putName_15 rfl 2 rfl ?_
    refine V_imul d_Model_putName_16 ?_
    refine V_ishr d_Model_putName_17 ?_
    refine V_i2l d_Model_putName_18 ?_
    refine V_iconst (v := 1) d_Model_putName_19 (by decide) ?_
    obtain ⟨_, eo20, h⟩ := ob h
    obtain ⟨r20, e20, h⟩ := ob h
    refine V_call (v := none) (st := []) (inv_V (N := m_Model_lay) (As := [.long (v1 >>> (((8 : Int32) * v2) &&& 31)).toInt64, .int (1 : Int32)]) (ci := 9) d_Model_putName_20 eo20 rfl k1239 k1241 sel_Model_lay kc_Model_lay y_Model_lay) ⟨Or.inl kc_Model_lay, k10, by decide, by decide⟩ (Nat.le_of_ble_eq_true rfl) (by decide) (by decide) (c_Model_lay G F v0 (v1 >>> (((8 : Int32) * v2) &&& 31)).toInt64 (1 : Int32) w r20 e20) ?_
    refine V_iinc (i := 2) (v := (v2 + (-1 : Int32))) d_Model_putName_23 2 rfl (congrArg (fun y => v2 + y) (by decide : Int32.ofInt (-1) = (-1 : Int32))) (by decide) rfl ?_
    refine V_goto (tgt := 7) d_Model_putName_26 (by decide) ?_
    refine V_lv [1, 2, 0] rfl ?_
    exact hK7 v0 v1 (v2 + (-1 : Int32)) r20.2 _ h
def l_Model_putName_7 (F : Nat) : Nat → Nat → Int32 → Int32 → zW → Option (Unit × zW)
  | 0 => fun _ _ _ _ => none
  | n + 1 => b_Model_putName_7 F (l_Model_putName_7 F n)
theorem l_Model_putName_7_ok (G : zG) (F : Nat) (n : Nat) :  ∀ (v0 : Nat) (v1 : Int32) (v2 : Int32) (w : zW) (r : (Unit × zW)), l_Model_putName_7 F n v0 v1 v2 w = some r → zV G m_Model_putName 7 [(0, .ref (z0 G + v0)), (1, .int v1), (2, .int v2)] [] w 0 0 (oV r.1) r.2 := by
  induction n with
  | zero => intro v0 v1 v2 w r h; exact nomatch (show (none : Option (Unit × zW)) = some r from h)
  | succ n ih => intro v0 v1 v2 w r h; exact b_Model_putName_7_ok G F (l_Model_putName_7 F n) ih v0 v1 v2 w r h
def b_Model_putName_0 (F : Nat) (v0 : Nat) (v1 : Int32) (w : zW) : Option (Unit × zW) := (f_Model_bytesOf F v1 w).bind fun r1 => l_Model_putName_7 F F v0 v1 (r1.1 - (1 : Int32)) r1.2
set_option maxRecDepth 100000 in
set_option maxHeartbeats 4000000 in
theorem b_Model_putName_0_ok (G : zG) (F : Nat) (v0 : Nat) (v1 : Int32) (w : zW) (r : (Unit × zW)) (h : b_Model_putName_0 F v0 v1 w = some r) : zV G m_Model_putName 0 [(0, .ref (z0 G + v0)), (1, .int v1)] [] w 0 0 (oV r.1) r.2 := by
  unfold b_Model_putName_0 at h
  refine V_iload_n (i := 1) d_Model_putName_0 rfl 1 rfl ?_
  obtain ⟨r1, e1, h⟩ := ob h
  refine V_call (v := some (.int r1.1)) (st := []) (inv_S (N := m_Model_bytesOf) (As := [.int v1]) d_Model_putName_1 k1260 k1261 k10 (Or.inl kc_Model_bytesOf) y_Model_bytesOf) ⟨Or.inl kc_Model_bytesOf, k10, by decide, by decide⟩ (Nat.le_of_ble_eq_true rfl) (by decide) (by decide) (c_Model_bytesOf G F v1 w r1 e1) ?_
  refine V_iconst (v := 1) d_Model_putName_4 (by decide) ?_
  refine V_isub d_Model_putName_5 ?_
  refine V_istore_n (i := 2) d_Model_putName_6 rfl (by decide) rfl ?_
  refine V_lv [1, 2, 0] rfl ?_
  exact l_Model_putName_7_ok G F F v0 v1 (r1.1 - (1 : Int32)) r1.2 _ h
def f_Model_putName (F : Nat) (v0 : Nat) (v1 : Int32) (w : zW) : Option (Unit × zW) := b_Model_putName_0 F v0 v1 w
theorem c_Model_putName (G : zG) (F : Nat) (v0 : Nat) (v1 : Int32) (w : zW) (r : (Unit × zW)) (h : f_Model_putName F v0 v1 w = some r) : zCT G m_Model_putName [.ref (z0 G + v0), .int v1] w (oV r.1) r.2 := zCT.ofV (by decide +kernel) (Or.inl ⟨kc_Model_putName, rfl⟩) (Nat.le_of_ble_eq_true rfl) (b_Model_putName_0_ok G F v0 v1 w r h)

/-! ZipArrayModel.putNumbers(IIIZZ)V -/
def m_Model_putNumbers : zM := (⟨R_Model, "putNumbers", "(IIIZZ)V"⟩, prog_11_method_71_code, 6, none, [], { frames := 2, cells := 0, slots := 0, locals := 45 })
theorem kc_Model_putNumbers : Cond.code (mY m_Model_putNumbers) (mC m_Model_putNumbers) (mL m_Model_putNumbers) (mT m_Model_putNumbers) ∈ zTb := tb_at 1285 (by decide +kernel) rfl
theorem y_Model_putNumbers : (mY m_Model_putNumbers).cls ≠ "java/lang/invoke/MethodHandle" ∧ (mY m_Model_putNumbers).cls ≠ "java/lang/invoke/VarHandle" ∧ (parseMethodDescriptor (mY m_Model_putNumbers).desc).map (fun d => d.parameters.length) = some 5 := by decide +kernel
theorem sel_Model_putNumbers : Cond.selects R_Model (mY m_Model_putNumbers) (mY m_Model_putNumbers) ∈ zTb := sel_at (y := mY m_Model_putNumbers) (n := 33) 85 (by decide +kernel)
theorem d_Model_putNumbers_0 : decode (mC m_Model_putNumbers) 0 = .ok (.aload_n 0, 1) := by decide +kernel
theorem d_Model_putNumbers_1 : decode (mC m_Model_putNumbers) 1 = .ok (.iload_n 2, 1) := by decide +kernel
theorem d_Model_putNumbers_2 : decode (mC m_Model_putNumbers) 2 = .ok (.i2l, 1) := by decide +kernel
theorem d_Model_putNumbers_3 : decode (mC m_Model_putNumbers) 3 = .ok (.iconst 2, 1) := by decide +kernel
theorem d_Model_putNumbers_4 : decode (mC m_Model_putNumbers) 4 = .ok (.invokevirtual 295, 3) := by decide +kernel
theorem d_Model_putNumbers_7 : decode (mC m_Model_putNumbers) 7 = .ok (.aload_n 0, 1) := by decide +kernel
theorem d_Model_putNumbers_8 : decode (mC m_Model_putNumbers) 8 = .ok (.iload_n 3, 1) := by decide +kernel
theorem d_Model_putNumbers_9 : decode (mC m_Model_putNumbers) 9 = .ok (.i2l, 1) := by decide +kernel
theorem d_Model_putNumbers_10 : decode (mC m_Model_putNumbers) 10 = .ok (.iconst 2, 1) := by decide +kernel
theorem d_Model_putNumbers_11 : decode (mC m_Model_putNumbers) 11 = .ok (.invokevirtual 295, 3) := by decide +kernel
theorem d_Model_putNumbers_14 : decode (mC m_Model_putNumbers) 14 = .ok (.aload_n 0, 1) := by decide +kernel
theorem d_Model_putNumbers_15 : decode (mC m_Model_putNumbers) 15 = .ok (.lconst 0, 1) := by decide +kernel
theorem d_Model_putNumbers_16 : decode (mC m_Model_putNumbers) 16 = .ok (.iconst 4, 1) := by decide +kernel
theorem d_Model_putNumbers_17 : decode (mC m_Model_putNumbers) 17 = .ok (.invokevirtual 295, 3) := by decide +kernel
theorem d_Model_putNumbers_20 : decode (mC m_Model_putNumbers) 20 = .ok (.aload_n 0, 1) := by decide +kernel
theorem d_Model_putNumbers_21 : decode (mC m_Model_putNumbers) 21 = .ok (.iload 5, 2) := by decide +kernel
theorem d_Model_putNumbers_23 : decode (mC m_Model_putNumbers) 23 = .ok (.ifCond .eq 7, 3) := by decide +kernel
theorem d_Model_putNumbers_26 : decode (mC m_Model_putNumbers) 26 = .ok (.lconst 0, 1) := by decide +kernel
theorem d_Model_putNumbers_27 : decode (mC m_Model_putNumbers) 27 = .ok (.goto 8, 3) := by decide +kernel
theorem d_Model_putNumbers_30 : decode (mC m_Model_putNumbers) 30 = .ok (.aload_n 0, 1) := by decide +kernel
theorem d_Model_putNumbers_31 : decode (mC m_Model_putNumbers) 31 = .ok (.invokevirtual 95, 3) := by decide +kernel
theorem d_Model_putNumbers_34 : decode (mC m_Model_putNumbers) 34 = .ok (.i2l, 1) := by decide +kernel
theorem d_Model_putNumbers_35 : decode (mC m_Model_putNumbers) 35 = .ok (.iconst 4, 1) := by decide +kernel
theorem d_Model_putNumbers_36 : decode (mC m_Model_putNumbers) 36 = .ok (.invokevirtual 295, 3) := by decide +kernel
theorem d_Model_putNumbers_39 : decode (mC m_Model_putNumbers) 39 = .ok (.aload_n 0, 1) := by decide +kernel
theorem d_Model_putNumbers_40 : decode (mC m_Model_putNumbers) 40 = .ok (.iload 5, 2) := by decide +kernel
theorem d_Model_putNumbers_42 : decode (mC m_Model_putNumbers) 42 = .ok (.ifCond .eq 7, 3) := by decide +kernel
theorem d_Model_putNumbers_45 : decode (mC m_Model_putNumbers) 45 = .ok (.lconst 0, 1) := by decide +kernel
theorem d_Model_putNumbers_46 : decode (mC m_Model_putNumbers) 46 = .ok (.goto 19, 3) := by decide +kernel
theorem d_Model_putNumbers_49 : decode (mC m_Model_putNumbers) 49 = .ok (.iload 4, 2) := by decide +kernel
theorem d_Model_putNumbers_51 : decode (mC m_Model_putNumbers) 51 = .ok (.ifCond .eq 9, 3) := by decide +kernel
theorem d_Model_putNumbers_54 : decode (mC m_Model_putNumbers) 54 = .ok (.ldc2_w 228, 3) := by decide +kernel
theorem d_Model_putNumbers_57 : decode (mC m_Model_putNumbers) 57 = .ok (.goto 8, 3) := by decide +kernel
theorem d_Model_putNumbers_60 : decode (mC m_Model_putNumbers) 60 = .ok (.aload_n 0, 1) := by decide +kernel
theorem d_Model_putNumbers_61 : decode (mC m_Model_putNumbers) 61 = .ok (.getfield 75, 3) := by decide +kernel
theorem d_Model_putNumbers_64 : decode (mC m_Model_putNumbers) 64 = .ok (.i2l, 1) := by decide +kernel
theorem d_Model_putNumbers_65 : decode (mC m_Model_putNumbers) 65 = .ok (.iconst 4, 1) := by decide +kernel
theorem d_Model_putNumbers_66 : decode (mC m_Model_putNumbers) 66 = .ok (.invokevirtual 295, 3) := by decide +kernel
theorem d_Model_putNumbers_69 : decode (mC m_Model_putNumbers) 69 = .ok (.aload_n 0, 1) := by decide +kernel
theorem d_Model_putNumbers_70 : decode (mC m_Model_putNumbers) 70 = .ok (.iload 5, 2) := by decide +kernel
theorem d_Model_putNumbers_72 : decode (mC m_Model_putNumbers) 72 = .ok (.ifCond .eq 7, 3) := by decide +kernel
theorem d_Model_putNumbers_75 : decode (mC m_Model_putNumbers) 75 = .ok (.lconst 0, 1) := by decide +kernel
theorem d_Model_putNumbers_76 : decode (mC m_Model_putNumbers) 76 = .ok (.goto 19, 3) := by decide +kernel
theorem d_Model_putNumbers_79 : decode (mC m_Model_putNumbers) 79 = .ok (.iload 4, 2) := by decide +kernel
theorem d_Model_putNumbers_81 : decode (mC m_Model_putNumbers) 81 = .ok (.ifCond .eq 9, 3) := by decide +kernel
theorem d_Model_putNumbers_84 : decode (mC m_Model_putNumbers) 84 = .ok (.ldc2_w 228, 3) := by decide +kernel
theorem d_Model_putNumbers_87 : decode (mC m_Model_putNumbers) 87 = .ok (.goto 8, 3) := by decide +kernel
theorem d_Model_putNumbers_90 : decode (mC m_Model_putNumbers) 90 = .ok (.aload_n 0, 1) := by decide +kernel
theorem d_Model_putNumbers_91 : decode (mC m_Model_putNumbers) 91 = .ok (.getfield 82, 3) := by decide +kernel
theorem d_Model_putNumbers_94 : decode (mC m_Model_putNumbers) 94 = .ok (.i2l, 1) := by decide +kernel
theorem d_Model_putNumbers_95 : decode (mC m_Model_putNumbers) 95 = .ok (.iconst 4, 1) := by decide +kernel
theorem d_Model_putNumbers_96 : decode (mC m_Model_putNumbers) 96 = .ok (.invokevirtual 295, 3) := by decide +kernel
theorem d_Model_putNumbers_99 : decode (mC m_Model_putNumbers) 99 = .ok (.aload_n 0, 1) := by decide +kernel
theorem d_Model_putNumbers_100 : decode (mC m_Model_putNumbers) 100 = .ok (.iload_n 1, 1) := by decide +kernel
theorem d_Model_putNumbers_101 : decode (mC m_Model_putNumbers) 101 = .ok (.invokestatic 311, 3) := by decide +kernel
theorem d_Model_putNumbers_104 : decode (mC m_Model_putNumbers) 104 = .ok (.i2l, 1) := by decide +kernel
theorem d_Model_putNumbers_105 : decode (mC m_Model_putNumbers) 105 = .ok (.iconst 2, 1) := by decide +kernel
theorem d_Model_putNumbers_106 : decode (mC m_Model_putNumbers) 106 = .ok (.invokevirtual 295, 3) := by decide +kernel
theorem d_Model_putNumbers_109 : decode (mC m_Model_putNumbers) 109 = .ok (.return_, 1) := by decide +kernel
def b_Model_putNumbers_95 (F : Nat) (v0 : Nat) (v1 : Int32) (s0 : Nat) (s1 : Int64) (w : zW) : Option (Unit × zW) := (zobj w s0 9).bind fun _ => (f_Model_lay F s0 s1 (4 : Int32) w).bind fun r96 => (f_Model_bytesOf F v1 r96.2).bind fun r101 => (zobj r101.2 v0 9).bind fun _ => (f_Model_lay F v0 r101.1.toInt64 (2 : Int32) r101.2).bind fun r106 => some ((), r106.2)
set_option maxRecDepth 100000 in
set_option maxHeartbeats 4000000 in
theorem b_Model_putNumbers_95_ok (G : zG) (F : Nat) (v0 : Nat) (v1 : Int32) (s0 : Nat) (s1 : Int64) (w : zW) (r : (Unit × zW)) (h : b_Model_putNumbers_95 F v0 v1 s0 s1 w = some r) : zV G m_Model_putNumbers 95 [(0, .ref (z0 G + v0)), (1, .int v1)] [.long s1, .ref (z0 G + s0)] w 0 0 (oV r.1) r.2 := by
  unfold b_Model_putNumbers_95 at h
  refine V_iconst (v := 4) d_Model_putNumbers_95 (by decide) ?_
  obtain ⟨_, eo96, h⟩ := ob h
  obtain ⟨r96, e96, h⟩ := ob h
  refine V_call (v := none) (st := []) (inv_V (N := m_Model_lay) (As := [.long s1, .int (4 : Int32)]) (ci := 9) d_Model_putNumbers_96 eo96 rfl k1239 k1241 sel_Model_lay kc_Model_lay y_Model_lay) ⟨Or.inl kc_Model_lay, k10, by decide, by decide⟩ (Nat.le_of_ble_eq_true rfl) (by decide) (by decide) (c_Model_lay G F s0 s1 (4 : Int32) w r96 e96) ?_
  refine V_aload_n (i := 0) d_Model_putNumbers_99 rfl 0 rfl ?_
  refine V_iload_n (i := 1) d_Model_putNumbers_100 rfl 1 rfl ?_
  obtain ⟨r101, e101, h⟩ := ob h
  refine V_call (v := some (.int r101.1)) (st := [.ref (z0 G + v0)]) (inv_S (N := m_Model_bytesOf) (As := [.int v1]) d_Model_putNumbers_101 k1260 k1261 k10 (Or.inl kc_Model_bytesOf) y_Model_bytesOf) ⟨Or.inl kc_Model_bytesOf, k10, by decide, by decide⟩ (Nat.le_of_ble_eq_true rfl) (by decide) (by decide) (c_Model_bytesOf G F v1 r96.2 r101 e101) ?_
  refine V_i2l d_Model_putNumbers_104 ?_
  refine V_iconst (v := 2) d_Model_putNumbers_105 (by decide) ?_
  obtain ⟨_, eo106, h⟩ := ob h
  obtain ⟨r106, e106, h⟩ := ob h
  refine V_call (v := none) (st := []) (inv_V (N := m_Model_lay) (As := [.long r101.1.toInt64, .int (2 : Int32)]) (ci := 9) d_Model_putNumbers_106 eo106 rfl k1239 k1241 sel_Model_lay kc_Model_lay y_Model_lay) ⟨Or.inl kc_Model_lay, k10, by decide, by decide⟩ (Nat.le_of_ble_eq_true rfl) (by decide) (by decide) (c_Model_lay G F v0 r101.1.toInt64 (2 : Int32) r101.2 r106 e106) ?_
  obtain rfl := Option.some.inj h
  exact V_vret rfl (by decide) (by decide) d_Model_putNumbers_109
def b_Model_putNumbers_65 (F : Nat) (v0 : Nat) (v1 : Int32) (v4 : Int32) (v5 : Int32) (s0 : Nat) (s1 : Int64) (w : zW) : Option (Unit × zW) := (zobj w s0 9).bind fun _ => (f_Model_lay F s0 s1 (4 : Int32) w).bind fun r66 => if v5 = 0 then (if v4 = 0 then ((getI r66.2 v0 9 1).bind fun x91 => b_Model_putNumbers_95 F v0 v1 v0 x91.toInt64 r66.2) else (b_Model_putNumbers_95 F v0 v1 v0 (-1 : Int64) r66.2)) else (b_Model_putNumbers_95 F v0 v1 v0 (0 : Int64) r66.2)
set_option maxRecDepth 100000 in
set_option maxHeartbeats 4000000 in
theorem b_Model_putNumbers_65_ok (G : zG) (F : Nat) (v0 : Nat) (v1 : Int32) (v4 : Int32) (v5 : Int32) (s0 : Nat) (s1 : Int64) (w : zW) (r : (Unit × zW)) (h : b_Model_putNumbers_65 F v0 v1 v4 v5 s0 s1 w = some r) : zV G m_Model_putNumbers 65 [(0, .ref (z0 G + v0)), (1, .int v1), (4, .int v4), (5, .int v5)] [.long s1, .ref (z0 G + s0)] w 0 0 (oV r.1) r.2 := by
  unfold b_Model_putNumbers_65 at h
  refine V_iconst (v := 4) d_Model_putNumbers_65 (by decide) ?_
  obtain ⟨_, eo66, h⟩ := ob h
  obtain ⟨r66, e66, h⟩ := ob h
  refine V_call (v := none) (st := []) (inv_V (N := m_Model_lay) (As := [.long s1, .int (4 : Int32)]) (ci := 9) d_Model_putNumbers_66 eo66 rfl k1239 k1241 sel_Model_lay kc_Model_lay y_Model_lay) ⟨Or.inl kc_Model_lay, k10, by decide, by decide⟩ (Nat.le_of_ble_eq_true rfl) (by decide) (by decide) (c_Model_lay G F s0 s1 (4 : Int32) w r66 e66) ?_
  refine V_aload_n (i := 0) d_Model_putNumbers_69 rfl 0 rfl ?_
  refine V_iload (i := 5) d_Model_putNumbers_70 3 rfl ?_
  refine V_if_eq (tgt := 79) d_Model_putNumbers_72 (by decide) (fun c72 => ?_) (fun c72 => ?_)
  · rw [if_pos c72] at h
    refine V_iload (i := 4) d_Model_putNumbers_79 2 rfl ?_
    refine V_if_eq (tgt := 90) d_Model_putNumbers_81 (by decide) (fun c81 => ?_) (fun c81 => ?_)
    · rw [if_pos c81] at h
      refine V_aload_n (i := 0) d_Model_putNumbers_90 rfl 0 rfl ?_
      obtain ⟨x91, e91, h⟩ := ob h
      refine V_getI (ci := 9) (k := 1) d_Model_putNumbers_91 e91 rfl (by decide) in_Model k883 ?_
      refine V_i2l d_Model_putNumbers_94 ?_
      refine V_lv [0, 1] rfl ?_
      exact b_Model_putNumbers_95_ok G F v0 v1 v0 x91.toInt64 r66.2 _ h
    · rw [if_neg c81] at h
      refine V_ldc2 (v := -1) d_Model_putNumbers_84 k1184 ?_
      refine V_goto (tgt := 95) d_Model_putNumbers_87 (by decide) ?_
      refine V_lv [0, 1] rfl ?_
      exact b_Model_putNumbers_95_ok G F v0 v1 v0 (-1 : Int64) r66.2 _ h
  · rw [if_neg c72] at h
    refine V_lconst (v := 0) d_Model_putNumbers_75 (by decide) ?_
    refine V_goto (tgt := 95) d_Model_putNumbers_76 (by decide) ?_
    refine V_lv [0, 1] rfl ?_
    exact b_Model_putNumbers_95_ok G F v0 v1 v0 (0 : Int64) r66.2 _ h
def b_Model_putNumbers_35 (F : Nat) (v0 : Nat) (v1 : Int32) (v4 : Int32) (v5 : Int32) (s0 : Nat) (s1 : Int64) (w : zW) : Option (Unit × zW) := (zobj w s0 9).bind fun _ => (f_Model_lay F s0 s1 (4 : Int32) w).bind fun r36 => if v5 = 0 then (if v4 = 0 then ((getI r36.2 v0 9 6).bind fun x61 => b_Model_putNumbers_65 F v0 v1 v4 v5 v0 x61.toInt64 r36.2) else (b_Model_putNumbers_65 F v0 v1 v4 v5 v0 (-1 : Int64) r36.2)) else (b_Model_putNumbers_65 F v0 v1 v4 v5 v0 (0 : Int64) r36.2)
set_option maxRecDepth 100000 in
set_option maxHeartbeats 4000000 in
theorem b_Model_putNumbers_35_ok (G : zG) (F : Nat) (v0 : Nat) (v1 : Int32) (v4 : Int32) (v5 : Int32) (s0 : Nat) (s1 : Int64) (w : zW) (r : (Unit × zW)) (h : b_Model_putNumbers_35 F v0 v1 v4 v5 s0 s1 w = some r) : zV G m_Model_putNumbers 35 [(0, .ref (z0 G + v0)), (1, .int v1), (4, .int v4), (5, .int v5)] [.long s1, .ref (z0 G + s0)] w 0 0 (oV r.1) r.2 := by
  unfold b_Model_putNumbers_35 at h
  refine V_iconst (v := 4) d_Model_putNumbers_35 (by decide) ?_
  obtain ⟨_, eo36, h⟩ := ob h
  obtain ⟨r36, e36, h⟩ := ob h
  refine V_call (v := none) (st := []) (inv_V (N := m_Model_lay) (As := [.long s1, .int (4 : Int32)]) (ci := 9) d_Model_putNumbers_36 eo36 rfl k1239 k1241 sel_Model_lay kc_Model_lay y_Model_lay) ⟨Or.inl kc_Model_lay, k10, by decide, by decide⟩ (Nat.le_of_ble_eq_true rfl) (by decide) (by decide) (c_Model_lay G F s0 s1 (4 : Int32) w r36 e36) ?_
  refine V_aload_n (i := 0) d_Model_putNumbers_39 rfl 0 rfl ?_
  refine V_iload (i := 5) d_Model_putNumbers_40 3 rfl ?_
  refine V_if_eq (tgt := 49) d_Model_putNumbers_42 (by decide) (fun c42 => ?_) (fun c42 => ?_)
  · rw [if_pos c42] at h
    refine V_iload (i := 4) d_Model_putNumbers_49 2 rfl ?_
    refine V_if_eq (tgt := 60) d_Model_putNumbers_51 (by decide) (fun c51 => ?_) (fun c51 => ?_)
    · rw [if_pos c51] at h
      refine V_aload_n (i := 0) d_Model_putNumbers_60 rfl 0 rfl ?_
      obtain ⟨x61, e61, h⟩ := ob h
      refine V_getI (ci := 9) (k := 6) d_Model_putNumbers_61 e61 rfl (by decide) in_Model k888 ?_
      refine V_i2l d_Model_putNumbers_64 ?_
      exact b_Model_putNumbers_65_ok G F v0 v1 v4 v5 v0 x61.toInt64 r36.2 _ h
    · rw [if_neg c51] at h
      refine V_ldc2 (v := -1) d_Model_putNumbers_54 k1184 ?_
      refine V_goto (tgt := 65) d_Model_putNumbers_57 (by decide) ?_
      exact b_Model_putNumbers_65_ok G F v0 v1 v4 v5 v0 (-1 : Int64) r36.2 _ h
  · rw [if_neg c42] at h
    refine V_lconst (v := 0) d_Model_putNumbers_45 (by decide) ?_
    refine V_goto (tgt := 65) d_Model_putNumbers_46 (by decide) ?_
    exact b_Model_putNumbers_65_ok G F v0 v1 v4 v5 v0 (0 : Int64) r36.2 _ h
def b_Model_putNumbers_0 (F : Nat) (v0 : Nat) (v1 : Int32) (v2 : Int32) (v3 : Int32) (v4 : Int32) (v5 : Int32) (w : zW) : Option (Unit × zW) := (zobj w v0 9).bind fun _ => (f_Model_lay F v0 v2.toInt64 (2 : Int32) w).bind fun r4 => (zobj r4.2 v0 9).bind fun _ => (f_Model_lay F v0 v3.toInt64 (2 : Int32) r4.2).bind fun r11 => (zobj r11.2 v0 9).bind fun _ => (f_Model_lay F v0 (0 : Int64) (4 : Int32) r11.2).bind fun r17 => if v5 = 0 then ((zobj r17.2 v0 9).bind fun _ => (f_Model_crcOfBuffer F v0 r17.2).bind fun r31 => b_Model_putNumbers_35 F v0 v1 v4 v5 v0 r31.1.toInt64 r31.2) else (b_Model_putNumbers_35 F v0 v1 v4 v5 v0 (0 : Int64) r17.2)
set_option maxRecDepth 100000 in
set_option maxHeartbeats 4000000 in
theorem b_Model_putNumbers_0_ok (G : zG) (F : Nat) (v0 : Nat) (v1 : Int32) (v2 : Int32) (v3 : Int32) (v4 : Int32) (v5 : Int32) (w : zW) (r : (Unit × zW)) (h : b_Model_putNumbers_0 F v0 v1 v2 v3 v4 v5 w = some r) : zV G m_Model_putNumbers 0 [(0, .ref (z0 G + v0)), (1, .int v1), (2, .int v2), (3, .int v3), (4, .int v4), (5, .int v5)] [] w 0 0 (oV r.1) r.2 := by
  unfold b_Model_putNumbers_0 at h
  refine V_aload_n (i := 0) d_Model_putNumbers_0 rfl 0 rfl ?_
  refine V_iload_n (i := 2) d_Model_putNumbers_1 rfl 2 rfl ?_
  refine V_i2l d_Model_putNumbers_2 ?_
  refine V_iconst (v := 2) d_Model_putNumbers_3 (by decide) ?_
  obtain ⟨_, eo4, h⟩ := ob h
  obtain ⟨r4, e4, h⟩ := ob h
  refine V_call (v := none) (st := []) (inv_V (N := m_Model_lay) (As := [.long v2.toInt64, .int (2 : Int32)]) (ci := 9) d_Model_putNumbers_4 eo4 rfl k1239 k1241 sel_Model_lay kc_Model_lay y_Model_lay) ⟨Or.inl kc_Model_lay, k10, by decide, by decide⟩ (Nat.le_of_ble_eq_true rfl) (by decide) (by decide) (c_Model_lay G F v0 v2.toInt64 (2 : Int32) w r4 e4) ?_
  refine V_aload_n (i := 0) d_Model_putNumbers_7 rfl 0 rfl ?_
  refine V_iload_n (i := 3) d_Model_putNumbers_8 rfl 3 rfl ?_
  refine V_i2l d_Model_putNumbers_9 ?_
  refine V_iconst (v := 2) d_Model_putNumbers_10 (by decide) ?_
  obtain ⟨_, eo11, h⟩ := ob h
  obtain ⟨r11, e11, h⟩ := ob h
  refine V_call (v := none) (st := []) (inv_V (N := m_Model_lay) (As := [.long v3.toInt64, .int (2 : Int32)]) (ci := 9) d_Model_putNumbers_11 eo11 rfl k1239 k1241 sel_Model_lay kc_Model_lay y_Model_lay) ⟨Or.inl kc_Model_lay, k10, by decide, by decide⟩ (Nat.le_of_ble_eq_true rfl) (by decide) (by decide) (c_Model_lay G F v0 v3.toInt64 (2 : Int32) r4.2 r11 e11) ?_
  refine V_aload_n (i := 0) d_Model_putNumbers_14 rfl 0 rfl ?_
  refine V_lconst (v := 0) d_Model_putNumbers_15 (by decide) ?_
  refine V_iconst (v := 4) d_Model_putNumbers_16 (by decide) ?_
  obtain ⟨_, eo17, h⟩ := ob h
  obtain ⟨r17, e17, h⟩ := ob h
  refine V_call (v := none) (st := []) (inv_V (N := m_Model_lay) (As := [.long (0 : Int64), .int (4 : Int32)]) (ci := 9) d_Model_putNumbers_17 eo17 rfl k1239 k1241 sel_Model_lay kc_Model_lay y_Model_lay) ⟨Or.inl kc_Model_lay, k10, by decide, by decide⟩ (Nat.le_of_ble_eq_true rfl) (by decide) (by decide) (c_Model_lay G F v0 (0 : Int64) (4 : Int32) r11.2 r17 e17) ?_
  refine V_aload_n (i := 0) d_Model_putNumbers_20 rfl 0 rfl ?_
  refine V_iload (i := 5) d_Model_putNumbers_21 5 rfl ?_
  refine V_if_eq (tgt := 30) d_Model_putNumbers_23 (by decide) (fun c23 => ?_) (fun c23 => ?_)
  · rw [if_pos c23] at h
    refine V_aload_n (i := 0) d_Model_putNumbers_30 rfl 0 rfl ?_
    obtain ⟨_, eo31, h⟩ := ob h
    obtain ⟨r31, e31, h⟩ := ob h
    refine V_call (v := some (.int r31.1)) (st := [.ref (z0 G + v0)]) (inv_V (N := m_Model_crcOfBuffer) (As := []) (ci := 9) d_Model_putNumbers_31 eo31 rfl k1016 k1018 sel_Model_crcOfBuffer kc_Model_crcOfBuffer y_Model_crcOfBuffer) ⟨Or.inl kc_Model_crcOfBuffer, k10, by decide, by decide⟩ (Nat.le_of_ble_eq_true rfl) (by decide) (by decide) (c_Model_crcOfBuffer G F v0 r17.2 r31 e31) ?_
    refine V_i2l d_Model_putNumbers_34 ?_
    refine V_lv [0, 1, 4, 5] rfl ?_
    exact b_Model_putNumbers_35_ok G F v0 v1 v4 v5 v0 r31.1.toInt64 r31.2 _ h
  · rw [if_neg c23] at h
    refine V_lconst (v := 0) d_Model_putNumbers_26 (by decide) ?_
    refine V_goto (tgt := 35) d_Model_putNumbers_27 (by decide) ?_
    refine V_lv [0, 1, 4, 5] rfl ?_
    exact b_Model_putNumbers_35_ok G F v0 v1 v4 v5 v0 (0 : Int64) r17.2 _ h
def f_Model_putNumbers (F : Nat) (v0 : Nat) (v1 : Int32) (v2 : Int32) (v3 : Int32) (v4 : Int32) (v5 : Int32) (w : zW) : Option (Unit × zW) := b_Model_putNumbers_0 F v0 v1 v2 v3 v4 v5 w
theorem c_Model_putNumbers (G : zG) (F : Nat) (v0 : Nat) (v1 : Int32) (v2 : Int32) (v3 : Int32) (v4 : Int32) (v5 : Int32) (w : zW) (r : (Unit × zW)) (h : f_Model_putNumbers F v0 v1 v2 v3 v4 v5 w = some r) : zCT G m_Model_putNumbers [.ref (z0 G + v0), .int v1, .int v2, .int v3, .int v4, .int v5] w (oV r.1) r.2 := zCT.ofV (by decide +kernel) (Or.inl ⟨kc_Model_putNumbers, rfl⟩) (Nat.le_of_ble_eq_true rfl) (b_Model_putNumbers_0_ok G F v0 v1 v2 v3 v4 v5 w r h)
