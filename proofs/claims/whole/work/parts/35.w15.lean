/-! ZipArrayModel.length()I -/
def m_Model_length : zM := (⟨R_Model, "length", "()I"⟩, prog_11_method_80_code, 1, (some .int), [], { frames := 0, cells := 0, slots := 0, locals := 0 })
theorem kc_Model_length : Cond.code (mY m_Model_length) (mC m_Model_length) (mL m_Model_length) (mT m_Model_length) ∈ zTb := tb_at 1311 (by decide +kernel) rfl
theorem y_Model_length : (mY m_Model_length).cls ≠ "java/lang/invoke/MethodHandle" ∧ (mY m_Model_length).cls ≠ "java/lang/invoke/VarHandle" ∧ (parseMethodDescriptor (mY m_Model_length).desc).map (fun d => d.parameters.length) = some 0 := by decide +kernel
theorem d_Model_length_0 : decode (mC m_Model_length) 0 = .ok (.aload_n 0, 1) := by decide +kernel
theorem d_Model_length_1 : decode (mC m_Model_length) 1 = .ok (.iconst 0, 1) := by decide +kernel
theorem d_Model_length_2 : decode (mC m_Model_length) 2 = .ok (.putfield 70, 3) := by decide +kernel
theorem d_Model_length_5 : decode (mC m_Model_length) 5 = .ok (.aload_n 0, 1) := by decide +kernel
theorem d_Model_length_6 : decode (mC m_Model_length) 6 = .ok (.getfield 194, 3) := by decide +kernel
theorem d_Model_length_9 : decode (mC m_Model_length) 9 = .ok (.ireturn, 1) := by decide +kernel
def b_Model_length_0 (F : Nat) (v0 : Nat) (w : zW) : Option (Int32 × zW) := (putI w v0 9 0 (0 : Int32)).bind fun w2 => (getI w2 v0 9 3).bind fun x6 => some (x6, w2)
set_option maxRecDepth 100000 in
set_option maxHeartbeats 4000000 in
theorem b_Model_length_0_ok (G : zG) (F : Nat) (v0 : Nat) (w : zW) (r : (Int32 × zW)) (h : b_Model_length_0 F v0 w = some r) : zV G m_Model_length 0 [(0, .ref (z0 G + v0))] [] w 0 0 (oI r.1) r.2 := by
  unfold b_Model_length_0 at h
  refine V_aload_n (i := 0) d_Model_length_0 rfl 0 rfl ?_
  refine V_iconst (v := 0) d_Model_length_1 (by decide) ?_
  obtain ⟨w2, e2, h⟩ := ob h
  refine V_putI (ci := 9) (k := 0) t_Model d_Model_length_2 e2 rfl (by decide) in_Model k882 ty_Model nm_Model rfl (Or.inl rfl) ?_
  refine V_aload_n (i := 0) d_Model_length_5 rfl 0 rfl ?_
  obtain ⟨x6, e6, h⟩ := ob h
  refine V_getI (ci := 9) (k := 3) d_Model_length_6 e6 rfl (by decide) in_Model k885 ?_
  obtain rfl := Option.some.inj h
  exact V_iret rfl (by decide) (by decide) d_Model_length_9
def f_Model_length (F : Nat) (v0 : Nat) (w : zW) : Option (Int32 × zW) := b_Model_length_0 F v0 w
theorem c_Model_length (G : zG) (F : Nat) (v0 : Nat) (w : zW) (r : (Int32 × zW)) (h : f_Model_length F v0 w = some r) : zCT G m_Model_length [.ref (z0 G + v0)] w (oI r.1) r.2 := zCT.ofV (by decide +kernel) (Or.inl ⟨kc_Model_length, rfl⟩) (Nat.le_of_ble_eq_true rfl) (b_Model_length_0_ok G F v0 w r h)

/-! ZipArrayModel.byteAt(I)I -/
def m_Model_byteAt : zM := (⟨R_Model, "byteAt", "(I)I"⟩, prog_11_method_81_code, 2, (some .int), [], { frames := 1, cells := 0, slots := 0, locals := 25 })
theorem kc_Model_byteAt : Cond.code (mY m_Model_byteAt) (mC m_Model_byteAt) (mL m_Model_byteAt) (mT m_Model_byteAt) ∈ zTb := tb_at 1315 (by decide +kernel) rfl
theorem y_Model_byteAt : (mY m_Model_byteAt).cls ≠ "java/lang/invoke/MethodHandle" ∧ (mY m_Model_byteAt).cls ≠ "java/lang/invoke/VarHandle" ∧ (parseMethodDescriptor (mY m_Model_byteAt).desc).map (fun d => d.parameters.length) = some 1 := by decide +kernel
theorem d_Model_byteAt_0 : decode (mC m_Model_byteAt) 0 = .ok (.aload_n 0, 1) := by decide +kernel
theorem d_Model_byteAt_1 : decode (mC m_Model_byteAt) 1 = .ok (.iload_n 1, 1) := by decide +kernel
theorem d_Model_byteAt_2 : decode (mC m_Model_byteAt) 2 = .ok (.i2l, 1) := by decide +kernel
theorem d_Model_byteAt_3 : decode (mC m_Model_byteAt) 3 = .ok (.lconst 0, 1) := by decide +kernel
theorem d_Model_byteAt_4 : decode (mC m_Model_byteAt) 4 = .ok (.aload_n 0, 1) := by decide +kernel
theorem d_Model_byteAt_5 : decode (mC m_Model_byteAt) 5 = .ok (.getfield 194, 3) := by decide +kernel
theorem d_Model_byteAt_8 : decode (mC m_Model_byteAt) 8 = .ok (.iconst 1, 1) := by decide +kernel
theorem d_Model_byteAt_9 : decode (mC m_Model_byteAt) 9 = .ok (.isub, 1) := by decide +kernel
theorem d_Model_byteAt_10 : decode (mC m_Model_byteAt) 10 = .ok (.i2l, 1) := by decide +kernel
theorem d_Model_byteAt_11 : decode (mC m_Model_byteAt) 11 = .ok (.invokestatic 87, 3) := by decide +kernel
theorem d_Model_byteAt_14 : decode (mC m_Model_byteAt) 14 = .ok (.ifCond .eq 7, 3) := by decide +kernel
theorem d_Model_byteAt_17 : decode (mC m_Model_byteAt) 17 = .ok (.iconst 0, 1) := by decide +kernel
theorem d_Model_byteAt_18 : decode (mC m_Model_byteAt) 18 = .ok (.goto 4, 3) := by decide +kernel
theorem d_Model_byteAt_21 : decode (mC m_Model_byteAt) 21 = .ok (.iconst 1, 1) := by decide +kernel
theorem d_Model_byteAt_22 : decode (mC m_Model_byteAt) 22 = .ok (.putfield 70, 3) := by decide +kernel
theorem d_Model_byteAt_25 : decode (mC m_Model_byteAt) 25 = .ok (.aload_n 0, 1) := by decide +kernel
theorem d_Model_byteAt_26 : decode (mC m_Model_byteAt) 26 = .ok (.getfield 70, 3) := by decide +kernel
theorem d_Model_byteAt_29 : decode (mC m_Model_byteAt) 29 = .ok (.ifCond .le 7, 3) := by decide +kernel
theorem d_Model_byteAt_32 : decode (mC m_Model_byteAt) 32 = .ok (.iconst 0, 1) := by decide +kernel
theorem d_Model_byteAt_33 : decode (mC m_Model_byteAt) 33 = .ok (.goto 9, 3) := by decide +kernel
theorem d_Model_byteAt_36 : decode (mC m_Model_byteAt) 36 = .ok (.aload_n 0, 1) := by decide +kernel
theorem d_Model_byteAt_37 : decode (mC m_Model_byteAt) 37 = .ok (.getfield 13, 3) := by decide +kernel
theorem d_Model_byteAt_40 : decode (mC m_Model_byteAt) 40 = .ok (.iload_n 1, 1) := by decide +kernel
theorem d_Model_byteAt_41 : decode (mC m_Model_byteAt) 41 = .ok (.iaload, 1) := by decide +kernel
theorem d_Model_byteAt_42 : decode (mC m_Model_byteAt) 42 = .ok (.ireturn, 1) := by decide +kernel
def b_Model_byteAt_22 (F : Nat) (v0 : Nat) (v1 : Int32) (s0 : Nat) (s1 : Int32) (w : zW) : Option (Int32 × zW) := (putI w s0 9 0 s1).bind fun w22 => (getI w22 v0 9 0).bind fun x26 => if x26 ≤ 0 then ((getR w22 v0 9 4).bind fun x37 => (aget w22 x37 v1).bind fun x41 => some (x41, w22)) else (some ((0 : Int32), w22))
set_option maxRecDepth 100000 in
set_option maxHeartbeats 4000000 in
theorem b_Model_byteAt_22_ok (G : zG) (F : Nat) (v0 : Nat) (v1 : Int32) (s0 : Nat) (s1 : Int32) (w : zW) (r : (Int32 × zW)) (h : b_Model_byteAt_22 F v0 v1 s0 s1 w = some r) : zV G m_Model_byteAt 22 [(0, .ref (z0 G + v0)), (1, .int v1)] [.int s1, .ref (z0 G + s0)] w 0 0 (oI r.1) r.2 := by
  unfold b_Model_byteAt_22 at h
  obtain ⟨w22, e22, h⟩ := ob h
  refine V_putI (ci := 9) (k := 0) t_Model d_Model_byteAt_22 e22 rfl (by decide) in_Model k882 ty_Model nm_Model rfl (Or.inl rfl) ?_
  refine V_aload_n (i := 0) d_Model_byteAt_25 rfl 0 rfl ?_
  obtain ⟨x26, e26, h⟩ := ob h
  refine V_getI (ci := 9) (k := 0) d_Model_byteAt_26 e26 rfl (by decide) in_Model k882 ?_
  refine V_if_le (tgt := 36) d_Model_byteAt_29 (by decide) (fun c29 => ?_) (fun c29 => ?_)
  · rw [if_pos c29] at h
    refine V_aload_n (i := 0) d_Model_byteAt_36 rfl 0 rfl ?_
    obtain ⟨x37, e37, h⟩ := ob h
    refine V_getR (ci := 9) (k := 4) d_Model_byteAt_37 e37 rfl (by decide) in_Model k886 ?_
    refine V_iload_n (i := 1) d_Model_byteAt_40 rfl 1 rfl ?_
    obtain ⟨x41, e41, h⟩ := ob h
    refine V_aget d_Model_byteAt_41 e41 ?_
    obtain rfl := Option.some.inj h
    exact V_iret rfl (by decide) (by decide) d_Model_byteAt_42
  · rw [if_neg c29] at h
    refine V_iconst (v := 0) d_Model_byteAt_32 (by decide) ?_
    refine V_goto (tgt := 42) d_Model_byteAt_33 (by decide) ?_
    obtain rfl := Option.some.inj h
    exact V_iret rfl (by decide) (by decide) d_Model_byteAt_42
def b_Model_byteAt_0 (F : Nat) (v0 : Nat) (v1 : Int32) (w : zW) : Option (Int32 × zW) := (getI w v0 9 3).bind fun x5 => (f_Model_within F v1.toInt64 (0 : Int64) (x5 - (1 : Int32)).toInt64 w).bind fun r11 => if r11.1 = 0 then (b_Model_byteAt_22 F v0 v1 v0 (1 : Int32) r11.2) else (b_Model_byteAt_22 F v0 v1 v0 (0 : Int32) r11.2)
set_option maxRecDepth 100000 in
set_option maxHeartbeats 4000000 in
theorem b_Model_byteAt_0_ok (G : zG) (F : Nat) (v0 : Nat) (v1 : Int32) (w : zW) (r : (Int32 × zW)) (h : b_Model_byteAt_0 F v0 v1 w = some r) : zV G m_Model_byteAt 0 [(0, .ref (z0 G + v0)), (1, .int v1)] [] w 0 0 (oI r.1) r.2 := by
  unfold b_Model_byteAt_0 at h
  refine V_aload_n (i := 0) d_Model_byteAt_0 rfl 0 rfl ?_
  refine V_iload_n (i := 1) d_Model_byteAt_1 rfl 1 rfl ?_
  refine V_i2l d_Model_byteAt_2 ?_
  refine V_lconst (v := 0) d_Model_byteAt_3 (by decide) ?_
  refine V_aload_n (i := 0) d_Model_byteAt_4 rfl 0 rfl ?_
  obtain ⟨x5, e5, h⟩ := ob h
  refine V_getI (ci := 9) (k := 3) d_Model_byteAt_5 e5 rfl (by decide) in_Model k885 ?_
  refine V_iconst (v := 1) d_Model_byteAt_8 (by decide) ?_
  refine V_isub d_Model_byteAt_9 ?_
  refine V_i2l d_Model_byteAt_10 ?_
  obtain ⟨r11, e11, h⟩ := ob h
  refine V_call (v := some (.int r11.1)) (st := [.ref (z0 G + v0)]) (inv_S (N := m_Model_within) (As := [.long v1.toInt64, .long (0 : Int64), .long (x5 - (1 : Int32)).toInt64]) d_Model_byteAt_11 k995 k996 k10 (Or.inl kc_Model_within) y_Model_within) ⟨Or.inl kc_Model_within, k10, by decide, by decide⟩ (Nat.le_of_ble_eq_true rfl) (by decide) (by decide) (c_Model_within G F v1.toInt64 (0 : Int64) (x5 - (1 : Int32)).toInt64 w r11 e11) ?_
  refine V_if_eq (tgt := 21) d_Model_byteAt_14 (by decide) (fun c14 => ?_) (fun c14 => ?_)
  · rw [if_pos c14] at h
    refine V_iconst (v := 1) d_Model_byteAt_21 (by decide) ?_
    exact b_Model_byteAt_22_ok G F v0 v1 v0 (1 : Int32) r11.2 _ h
  · rw [if_neg c14] at h
    refine V_iconst (v := 0) d_Model_byteAt_17 (by decide) ?_
    refine V_goto (tgt := 22) d_Model_byteAt_18 (by decide) ?_
    exact b_Model_byteAt_22_ok G F v0 v1 v0 (0 : Int32) r11.2 _ h
def f_Model_byteAt (F : Nat) (v0 : Nat) (v1 : Int32) (w : zW) : Option (Int32 × zW) := b_Model_byteAt_0 F v0 v1 w
theorem c_Model_byteAt (G : zG) (F : Nat) (v0 : Nat) (v1 : Int32) (w : zW) (r : (Int32 × zW)) (h : f_Model_byteAt F v0 v1 w = some r) : zCT G m_Model_byteAt [.ref (z0 G + v0), .int v1] w (oI r.1) r.2 := zCT.ofV (by decide +kernel) (Or.inl ⟨kc_Model_byteAt, rfl⟩) (Nat.le_of_ble_eq_true rfl) (b_Model_byteAt_0_ok G F v0 v1 w r h)

/-! ZipArrayModel.poke(II)V -/
def m_Model_poke : zM := (⟨R_Model, "poke", "(II)V"⟩, prog_11_method_82_code, 3, none, [], { frames := 1, cells := 0, slots := 0, locals := 25 })
theorem kc_Model_poke : Cond.code (mY m_Model_poke) (mC m_Model_poke) (mL m_Model_poke) (mT m_Model_poke) ∈ zTb := tb_at 1319 (by decide +kernel) rfl
theorem y_Model_poke : (mY m_Model_poke).cls ≠ "java/lang/invoke/MethodHandle" ∧ (mY m_Model_poke).cls ≠ "java/lang/invoke/VarHandle" ∧ (parseMethodDescriptor (mY m_Model_poke).desc).map (fun d => d.parameters.length) = some 2 := by decide +kernel
theorem d_Model_poke_0 : decode (mC m_Model_poke) 0 = .ok (.aload_n 0, 1) := by decide +kernel
theorem d_Model_poke_1 : decode (mC m_Model_poke) 1 = .ok (.iload_n 1, 1) := by decide +kernel
theorem d_Model_poke_2 : decode (mC m_Model_poke) 2 = .ok (.i2l, 1) := by decide +kernel
theorem d_Model_poke_3 : decode (mC m_Model_poke) 3 = .ok (.lconst 0, 1) := by decide +kernel
theorem d_Model_poke_4 : decode (mC m_Model_poke) 4 = .ok (.aload_n 0, 1) := by decide +kernel
theorem d_Model_poke_5 : decode (mC m_Model_poke) 5 = .ok (.getfield 194, 3) := by decide +kernel
theorem d_Model_poke_8 : decode (mC m_Model_poke) 8 = .ok (.iconst 1, 1) := by decide +kernel
theorem d_Model_poke_9 : decode (mC m_Model_poke) 9 = .ok (.isub, 1) := by decide +kernel
theorem d_Model_poke_10 : decode (mC m_Model_poke) 10 = .ok (.i2l, 1) := by decide +kernel
theorem d_Model_poke_11 : decode (mC m_Model_poke) 11 = .ok (.invokestatic 87, 3) := by decide +kernel
theorem d_Model_poke_14 : decode (mC m_Model_poke) 14 = .ok (.ifCond .ne 7, 3) := by decide +kernel
theorem d_Model_poke_17 : decode (mC m_Model_poke) 17 = .ok (.iconst 1, 1) := by decide +kernel
theorem d_Model_poke_18 : decode (mC m_Model_poke) 18 = .ok (.goto 20, 3) := by decide +kernel
theorem d_Model_poke_21 : decode (mC m_Model_poke) 21 = .ok (.iload_n 2, 1) := by decide +kernel
theorem d_Model_poke_22 : decode (mC m_Model_poke) 22 = .ok (.i2l, 1) := by decide +kernel
theorem d_Model_poke_23 : decode (mC m_Model_poke) 23 = .ok (.lconst 0, 1) := by decide +kernel
theorem d_Model_poke_24 : decode (mC m_Model_poke) 24 = .ok (.ldc2_w 91, 3) := by decide +kernel
theorem d_Model_poke_27 : decode (mC m_Model_poke) 27 = .ok (.invokestatic 87, 3) := by decide +kernel
theorem d_Model_poke_30 : decode (mC m_Model_poke) 30 = .ok (.ifCond .eq 7, 3) := by decide +kernel
theorem d_Model_poke_33 : decode (mC m_Model_poke) 33 = .ok (.iconst 0, 1) := by decide +kernel
theorem d_Model_poke_34 : decode (mC m_Model_poke) 34 = .ok (.goto 4, 3) := by decide +kernel
theorem d_Model_poke_37 : decode (mC m_Model_poke) 37 = .ok (.iconst 2, 1) := by decide +kernel
theorem d_Model_poke_38 : decode (mC m_Model_poke) 38 = .ok (.putfield 70, 3) := by decide +kernel
theorem d_Model_poke_41 : decode (mC m_Model_poke) 41 = .ok (.aload_n 0, 1) := by decide +kernel
theorem d_Model_poke_42 : decode (mC m_Model_poke) 42 = .ok (.getfield 70, 3) := by decide +kernel
theorem d_Model_poke_45 : decode (mC m_Model_poke) 45 = .ok (.ifCond .ne 10, 3) := by decide +kernel
theorem d_Model_poke_48 : decode (mC m_Model_poke) 48 = .ok (.aload_n 0, 1) := by decide +kernel
theorem d_Model_poke_49 : decode (mC m_Model_poke) 49 = .ok (.getfield 13, 3) := by decide +kernel
theorem d_Model_poke_52 : decode (mC m_Model_poke) 52 = .ok (.iload_n 1, 1) := by decide +kernel
theorem d_Model_poke_53 : decode (mC m_Model_poke) 53 = .ok (.iload_n 2, 1) := by decide +kernel
theorem d_Model_poke_54 : decode (mC m_Model_poke) 54 = .ok (.iastore, 1) := by decide +kernel
theorem d_Model_poke_55 : decode (mC m_Model_poke) 55 = .ok (.return_, 1) := by decide +kernel
def b_Model_poke_38 (F : Nat) (v0 : Nat) (v1 : Int32) (v2 : Int32) (s0 : Nat) (s1 : Int32) (w : zW) : Option (Unit × zW) := (putI w s0 9 0 s1).bind fun w38 => (getI w38 v0 9 0).bind fun x42 => if x42 = 0 then ((getR w38 v0 9 4).bind fun x49 => (aset w38 x49 v1 v2).bind fun w54 => some ((), w54)) else (some ((), w38))
set_option maxRecDepth 100000 in
set_option maxHeartbeats 4000000 in
theorem b_Model_poke_38_ok (G : zG) (F : Nat) (v0 : Nat) (v1 : Int32) (v2 : Int32) (s0 : Nat) (s1 : Int32) (w : zW) (r : (Unit × zW)) (h : b_Model_poke_38 F v0 v1 v2 s0 s1 w = some r) : zV G m_Model_poke 38 [(0, .ref (z0 G + v0)), (1, .int v1), (2, .int v2)] [.int s1, .ref (z0 G + s0)] w 0 0 (oV r.1) r.2 := by
  unfold b_Model_poke_38 at h
  obtain ⟨w38, e38, h⟩ := ob h
  refine V_putI (ci := 9) (k := 0) t_Model d_Model_poke_38 e38 rfl (by decide) in_Model k882 ty_Model nm_Model rfl (Or.inl rfl) ?_
  refine V_aload_n (i := 0) d_Model_poke_41 rfl 0 rfl ?_
  obtain ⟨x42, e42, h⟩ := ob h
  refine V_getI (ci := 9) (k := 0) d_Model_poke_42 e42 rfl (by decide) in_Model k882 ?_
  refine V_if_ne (tgt := 55) d_Model_poke_45 (by decide) (fun c45 => ?_) (fun c45 => ?_)
  · rw [if_neg c45] at h
    obtain rfl := Option.some.inj h
    exact V_vret rfl (by decide) (by decide) d_Model_poke_55
  · rw [if_pos c45] at h
    refine V_aload_n (i := 0) d_Model_poke_48 rfl 0 rfl ?_
    obtain ⟨x49, e49, h⟩ := ob h
    refine V_getR (ci := 9) (k := 4) d_Model_poke_49 e49 rfl (by decide) in_Model k886 ?_
    refine V_iload_n (i := 1) d_Model_poke_52 rfl 1 rfl ?_
    refine V_iload_n (i := 2) d_Model_poke_53 rfl 2 rfl ?_
    obtain ⟨w54, e54, h⟩ := ob h
    refine V_aset d_Model_poke_54 e54 ?_
    obtain rfl := Option.some.inj h
    exact V_vret rfl (by decide) (by decide) d_Model_poke_55
def b_Model_poke_0 (F : Nat) (v0 : Nat) (v1 : Int32) (v2 : Int32) (w : zW) : Option (Unit × zW) := (getI w v0 9 3).bind fun x5 => (f_Model_within F v1.toInt64 (0 : Int64) (x5 - (1 : Int32)).toInt64 w).bind fun r11 => if r11.1 = 0 then (b_Model_poke_38 F v0 v1 v2 v0 (1 : Int32) r11.2) else ((f_Model_within F v2.toInt64 (0 : Int64) (255 : Int64) r11.2).bind fun r27 => if r27.1 = 0 then (b_Model_poke_38 F v0 v1 v2 v0 (2 : Int32) r27.2) else (b_Model_poke_38 F v0 v1 v2 v0 (0 : Int32) r27.2))
set_option maxRecDepth 100000 in
set_option maxHeartbeats 4000000 in
theorem b_Model_poke_0_ok (G : zG) (F : Nat) (v0 : Nat) (v1 : Int32) (v2 : Int32) (w : zW) (r : (Unit × zW)) (h : b_Model_poke_0 F v0 v1 v2 w = some r) : zV G m_Model_poke 0 [(0, .ref (z0 G + v0)), (1, .int v1), (2, .int v2)] [] w 0 0 (oV r.1) r.2 := by
  unfold b_Model_poke_0 at h
  refine V_aload_n (i := 0) d_Model_poke_0 rfl 0 rfl ?_
  refine V_iload_n (i := 1) d_Model_poke_1 rfl 1 rfl ?_
  refine V_i2l d_Model_poke_2 ?_
  refine V_lconst (v := 0) d_Model_poke_3 (by decide) ?_
  refine V_aload_n (i := 0) d_Model_poke_4 rfl 0 rfl ?_
  obtain ⟨x5, e5, h⟩ := ob h
  refine V_getI (ci := 9) (k := 3) d_Model_poke_5 e5 rfl (by decide) in_Model k885 ?_
  refine V_iconst (v := 1) d_Model_poke_8 (by decide) ?_
  refine V_isub d_Model_poke_9 ?_
  refine V_i2l d_Model_poke_10 ?_
  obtain ⟨r11, e11, h⟩ := ob h
  refine V_call (v := some (.int r11.1)) (st := [.ref (z0 G + v0)]) (inv_S (N := m_Model_within) (As := [.long v1.toInt64, .long (0 : Int64), .long (x5 - (1 : Int32)).toInt64]) d_Model_poke_11 k995 k996 k10 (Or.inl kc_Model_within) y_Model_within) ⟨Or.inl kc_Model_within, k10, by decide, by decide⟩ (Nat.le_of_ble_eq_true rfl) (by decide) (by decide) (c_Model_within G F v1.toInt64 (0 : Int64) (x5 - (1 : Int32)).toInt64 w r11 e11) ?_
  refine V_if_ne (tgt := 21) d_Model_poke_14 (by decide) (fun c14 => ?_) (fun c14 => ?_)
  · rw [if_neg c14] at h
    refine V_iload_n (i := 2) d_Model_poke_21 rfl 2 rfl ?_
    refine V_i2l d_Model_poke_22 ?_
    refine V_lconst (v := 0) d_Model_poke_23 (by decide) ?_
    refine V_ldc2 (v := 255) d_Model_poke_24 k1002 ?_
    obtain ⟨r27, e27, h⟩ := ob h
    refine V_call (v := some (.int r27.1)) (st := [.ref (z0 G + v0)]) (inv_S (N := m_Model_within) (As := [.long v2.toInt64, .long (0 : Int64), .long (255 : Int64)]) d_Model_poke_27 k995 k996 k10 (Or.inl kc_Model_within) y_Model_within) ⟨Or.inl kc_Model_within, k10, by decide, by decide⟩ (Nat.le_of_ble_eq_true rfl) (by decide) (by decide) (c_Model_within G F v2.toInt64 (0 : Int64) (255 : Int64) r11.2 r27 e27) ?_
    refine V_if_eq (tgt := 37) d_Model_poke_30 (by decide) (fun c30 => ?_) (fun c30 => ?_)
    · rw [if_pos c30] at h
      refine V_iconst (v := 2) d_Model_poke_37 (by decide) ?_
      exact b_Model_poke_38_ok G F v0 v1 v2 v0 (2 : Int32) r27.2 _ h
    · rw [if_neg c30] at h
      refine V_iconst (v := 0) d_Model_poke_33 (by decide) ?_
      refine V_goto (tgt := 38) d_Model_poke_34 (by decide) ?_
      exact b_Model_poke_38_ok G F v0 v1 v2 v0 (0 : Int32) r27.2 _ h
  · rw [if_pos c14] at h
    refine V_iconst (v := 1) d_Model_poke_17 (by decide) ?_
    refine V_goto (tgt := 38) d_Model_poke_18 (by decide) ?_
    exact b_Model_poke_38_ok G F v0 v1 v2 v0 (1 : Int32) r11.2 _ h
def f_Model_poke (F : Nat) (v0 : Nat) (v1 : Int32) (v2 : Int32) (w : zW) : Option (Unit × zW) := b_Model_poke_0 F v0 v1 v2 w
theorem c_Model_poke (G : zG) (F : Nat) (v0 : Nat) (v1 : Int32) (v2 : Int32) (w : zW) (r : (Unit × zW)) (h : f_Model_poke F v0 v1 v2 w = some r) : zCT G m_Model_poke [.ref (z0 G + v0), .int v1, .int v2] w (oV r.1) r.2 := zCT.ofV (by decide +kernel) (Or.inl ⟨kc_Model_poke, rfl⟩) (Nat.le_of_ble_eq_true rfl) (b_Model_poke_0_ok G F v0 v1 v2 w r h)

/-! ZipArrayModel.put(JI)I -/
def m_Model_put : zM := (⟨R_Model, "put", "(JI)I"⟩, prog_11_method_83_code, 5, (some .int), [], { frames := 1, cells := 0, slots := 0, locals := 25 })
theorem kc_Model_put : Cond.code (mY m_Model_put) (mC m_Model_put) (mL m_Model_put) (mT m_Model_put) ∈ zTb := tb_at 1323 (by decide +kernel) rfl
theorem y_Model_put : (mY m_Model_put).cls ≠ "java/lang/invoke/MethodHandle" ∧ (mY m_Model_put).cls ≠ "java/lang/invoke/VarHandle" ∧ (parseMethodDescriptor (mY m_Model_put).desc).map (fun d => d.parameters.length) = some 2 := by decide +kernel
theorem d_Model_put_0 : decode (mC m_Model_put) 0 = .ok (.aload_n 0, 1) := by decide +kernel
theorem d_Model_put_1 : decode (mC m_Model_put) 1 = .ok (.iload_n 3, 1) := by decide +kernel
theorem d_Model_put_2 : decode (mC m_Model_put) 2 = .ok (.i2l, 1) := by decide +kernel
theorem d_Model_put_3 : decode (mC m_Model_put) 3 = .ok (.lconst 1, 1) := by decide +kernel
theorem d_Model_put_4 : decode (mC m_Model_put) 4 = .ok (.ldc2_w 85, 3) := by decide +kernel
theorem d_Model_put_7 : decode (mC m_Model_put) 7 = .ok (.invokestatic 87, 3) := by decide +kernel
theorem d_Model_put_10 : decode (mC m_Model_put) 10 = .ok (.ifCond .ne 7, 3) := by decide +kernel
theorem d_Model_put_13 : decode (mC m_Model_put) 13 = .ok (.iconst 1, 1) := by decide +kernel
theorem d_Model_put_14 : decode (mC m_Model_put) 14 = .ok (.goto 20, 3) := by decide +kernel
theorem d_Model_put_17 : decode (mC m_Model_put) 17 = .ok (.aload_n 0, 1) := by decide +kernel
theorem d_Model_put_18 : decode (mC m_Model_put) 18 = .ok (.getfield 194, 3) := by decide +kernel
theorem d_Model_put_21 : decode (mC m_Model_put) 21 = .ok (.iload_n 3, 1) := by decide +kernel
theorem d_Model_put_22 : decode (mC m_Model_put) 22 = .ok (.iadd, 1) := by decide +kernel
theorem d_Model_put_23 : decode (mC m_Model_put) 23 = .ok (.sipush 1600, 3) := by decide +kernel
theorem d_Model_put_26 : decode (mC m_Model_put) 26 = .ok (.if_icmp .le 7, 3) := by decide +kernel
theorem d_Model_put_29 : decode (mC m_Model_put) 29 = .ok (.iconst 2, 1) := by decide +kernel
theorem d_Model_put_30 : decode (mC m_Model_put) 30 = .ok (.goto 4, 3) := by decide +kernel
theorem d_Model_put_33 : decode (mC m_Model_put) 33 = .ok (.iconst 0, 1) := by decide +kernel
theorem d_Model_put_34 : decode (mC m_Model_put) 34 = .ok (.putfield 70, 3) := by decide +kernel
theorem d_Model_put_37 : decode (mC m_Model_put) 37 = .ok (.iload_n 3, 1) := by decide +kernel
theorem d_Model_put_38 : decode (mC m_Model_put) 38 = .ok (.iconst 1, 1) := by decide +kernel
theorem d_Model_put_39 : decode (mC m_Model_put) 39 = .ok (.isub, 1) := by decide +kernel
theorem d_Model_put_40 : decode (mC m_Model_put) 40 = .ok (.istore 4, 2) := by decide +kernel
theorem d_Model_put_42 : decode (mC m_Model_put) 42 = .ok (.iload 4, 2) := by decide +kernel
theorem d_Model_put_44 : decode (mC m_Model_put) 44 = .ok (.ifCond .lt 47, 3) := by decide +kernel
theorem d_Model_put_47 : decode (mC m_Model_put) 47 = .ok (.aload_n 0, 1) := by decide +kernel
theorem d_Model_put_48 : decode (mC m_Model_put) 48 = .ok (.getfield 70, 3) := by decide +kernel
theorem d_Model_put_51 : decode (mC m_Model_put) 51 = .ok (.ifCond .ne 40, 3) := by decide +kernel
theorem d_Model_put_54 : decode (mC m_Model_put) 54 = .ok (.aload_n 0, 1) := by decide +kernel
theorem d_Model_put_55 : decode (mC m_Model_put) 55 = .ok (.getfield 13, 3) := by decide +kernel
theorem d_Model_put_58 : decode (mC m_Model_put) 58 = .ok (.aload_n 0, 1) := by decide +kernel
theorem d_Model_put_59 : decode (mC m_Model_put) 59 = .ok (.getfield 194, 3) := by decide +kernel
theorem d_Model_put_62 : decode (mC m_Model_put) 62 = .ok (.lload_n 1, 1) := by decide +kernel
theorem d_Model_put_63 : decode (mC m_Model_put) 63 = .ok (.bipush 8, 2) := by decide +kernel
theorem d_Model_put_65 : decode (mC m_Model_put) 65 = .ok (.iload 4, 2) := by decide +kernel
theorem d_Model_put_67 : decode (mC m_Model_put) 67 = .ok (.imul, 1) := by decide +kernel
theorem d_Model_put_68 : decode (mC m_Model_put) 68 = .ok (.lshr, 1) := by decide +kernel
theorem d_Model_put_69 : decode (mC m_Model_put) 69 = .ok (.l2i, 1) := by decide +kernel
theorem d_Model_put_70 : decode (mC m_Model_put) 70 = .ok (.sipush 255, 3) := by decide +kernel
theorem d_Model_put_73 : decode (mC m_Model_put) 73 = .ok (.iand, 1) := by decide +kernel
theorem d_Model_put_74 : decode (mC m_Model_put) 74 = .ok (.iastore, 1) := by decide +kernel
theorem d_Model_put_75 : decode (mC m_Model_put) 75 = .ok (.aload_n 0, 1) := by decide +kernel
theorem d_Model_put_76 : decode (mC m_Model_put) 76 = .ok (.dup, 1) := by decide +kernel
theorem d_Model_put_77 : decode (mC m_Model_put) 77 = .ok (.getfield 194, 3) := by decide +kernel
theorem d_Model_put_80 : decode (mC m_Model_put) 80 = .ok (.iconst 1, 1) := by decide +kernel
theorem d_Model_put_81 : decode (mC m_Model_put) 81 = .ok (.iadd, 1) := by decide +kernel
theorem d_Model_put_82 : decode (mC m_Model_put) 82 = .ok (.putfield 194, 3) := by decide +kernel
theorem d_Model_put_85 : decode (mC m_Model_put) 85 = .ok (.iinc 4 (-1), 3) := by decide +kernel
theorem d_Model_put_88 : decode (mC m_Model_put) 88 = .ok (.goto (-46), 3) := by decide +kernel
theorem d_Model_put_91 : decode (mC m_Model_put) 91 = .ok (.aload_n 0, 1) := by decide +kernel
theorem d_Model_put_92 : decode (mC m_Model_put) 92 = .ok (.getfield 70, 3) := by decide +kernel
theorem d_Model_put_95 : decode (mC m_Model_put) 95 = .ok (.ifCond .le 7, 3) := by decide +kernel
theorem d_Model_put_98 : decode (mC m_Model_put) 98 = .ok (.iconst 0, 1) := by decide +kernel
theorem d_Model_put_99 : decode (mC m_Model_put) 99 = .ok (.goto 7, 3) := by decide +kernel
theorem d_Model_put_102 : decode (mC m_Model_put) 102 = .ok (.aload_n 0, 1) := by decide +kernel
theorem d_Model_put_103 : decode (mC m_Model_put) 103 = .ok (.getfield 194, 3) := by decide +kernel
theorem d_Model_put_106 : decode (mC m_Model_put) 106 = .ok (.ireturn, 1) := by decide +kernel
def b_Model_put_91 (F : Nat) (v0 : Nat) (w : zW) : Option (Int32 × zW) := (getI w v0 9 0).bind fun x92 => if x92 ≤ 0 then ((getI w v0 9 3).bind fun x103 => some (x103, w)) else (some ((0 : Int32), w))
set_option maxRecDepth 100000 in
set_option maxHeartbeats 4000000 in
theorem b_Model_put_91_ok (G : zG) (F : Nat) (v0 : Nat) (w : zW) (r : (Int32 × zW)) (h : b_Model_put_91 F v0 w = some r) : zV G m_Model_put 91 [(0, .ref (z0 G + v0))] [] w 0 0 (oI r.1) r.2 := by
  unfold b_Model_put_91 at h
  refine V_aload_n (i := 0) d_Model_put_91 rfl 0 rfl ?_
  obtain ⟨x92, e92, h⟩ := ob h
  refine V_getI (ci := 9) (k := 0) d_Model_put_92 e92 rfl (by decide) in_Model k882 ?_
  refine V_if_le (tgt := 102) d_Model_put_95 (by decide) (fun c95 => ?_) (fun c95 => ?_)
  · rw [if_pos c95] at h
    refine V_aload_n (i := 0) d_Model_put_102 rfl 0 rfl ?_
    obtain ⟨x103, e103, h⟩ := ob h
    refine V_getI (ci := 9) (k := 3) d_Model_put_103 e103 rfl (by decide) in_Model k885 ?_
    obtain rfl := Option.some.inj h
    exact V_iret rfl (by decide) (by decide) d_Model_put_106
  · rw [if_neg c95] at h
    refine V_iconst (v := 0) d_Model_put_98 (by decide) ?_
    refine V_goto (tgt := 106) d_Model_put_99 (by decide) ?_
    obtain rfl := Option.some.inj h
    exact V_iret rfl (by decide) (by decide) d_Model_put_106
def b_Model_put_42 (F : Nat) (K42 : Nat → Int64 → Int32 → zW → Option (Int32 × zW)) (v0 : Nat) (v1 : Int64) (v4 : Int32) (w : zW) : Option (Int32 × zW) := if v4 < 0 then (b_Model_put_91 F v0 w) else ((getI w v0 9 0).bind fun x48 => if x48 = 0 then ((getR w v0 9 4).bind fun x55 => (getI w v0 9 3).bind fun x59 => (aset w x55 x59 ((v1 >>> (((8 : Int32) * v4).toInt64 &&& 63)).toInt32 &&& (255 : Int32))).bind fun w74 => (getI w74 v0 9 3).bind fun x77 => (putI w74 v0 9 3 (x77 + (1 : Int32))).bind fun w82 => K42 v0 v1 (v4 + (-1 : Int32)) w82) else (b_Model_put_91 F v0 w))
set_option maxRecDepth 100000 in
set_option maxHeartbeats 4000000 in
theorem b_Model_put_42_ok (G : zG) (F : Nat) (K42 : Nat → Int64 → Int32 → zW → Option (Int32 × zW)) (hK42 : ∀ (v0 : Nat) (v1 : Int64) (v4 : Int32) (w : zW) (r : (Int32 × zW)), K42 v0 v1 v4 w = some r → zV G m_Model_put 42 [(0, .ref (z0 G + v0)), (1, .long v1), (4, .int v4)] [] w 0 0 (oI r.1) r.2) (v0 : Nat) (v1 : Int64) (v4 : Int32) (w : zW) (r : (Int32 × zW)) (h : b_Model_put_42 F K42 v0 v1 v4 w = some r) : zV G m_Model_put 42 [(0, .ref (z0 G + v0)), (1, .long v1), (4, .int v4)] [] w 0 0 (oI r.1) r.2 := by
  unfold b_Model_put_42 at h
  refine V_iload (i := 4) d_Model_put_42 2 rfl ?_
  refine V_if_lt (tgt := 91) d_Model_put_44 (by decide) (fun c44 => ?_) (fun c44 => ?_)
  · rw [if_pos c44] at h
    refine V_lv [0] rfl ?_
    exact b_Model_put_91_ok G F v0 w _ h
  · rw [if_neg c44] at h
    refine V_aload_n (i := 0) d_Model_put_47 rfl 0 rfl ?_
    obtain ⟨x48, e48, h⟩ := ob h
    refine V_getI (ci := 9) (k := 0) d_Model_put_48 e48 rfl (by decide) in_Model k882 ?_
    refine V_if_ne (tgt := 91) d_Model_put_51 (by decide) (fun c51 => ?_) (fun c51 => ?_)
    · rw [if_neg c51] at h
      refine V_lv [0] rfl ?_
      exact b_Model_put_91_ok G F v0 w _ h
    · rw [if_pos c51] at h
      refine V_aload_n (i := 0) d_Model_put_54 rfl 0 rfl ?_
      obtain ⟨x55, e55, h⟩ := ob h
      refine V_getR (ci := 9) (k := 4) d_Model_put_55 e55 rfl (by decide) in_Model k886 ?_
      refine V_aload_n (i := 0) d_Model_put_58 rfl 0 rfl ?_
      obtain ⟨x59, e59, h⟩ := ob h
      refine V_getI (ci := 9) (k := 3) d_Model_put_59 e59 rfl (by decide) in_Model k885 ?_
      refine V_lload_n (i := 1) d_Model_put_62 rfl 1 rfl ?_
      refine V_bipush (v := 8) d_Model_put_63 (by decide) ?_
      refine V_iload (i := 4) d_Model_put_65 2 rfl ?_
      refine V_imul d_Model_put_67 ?_
      refine V_lshr d_Model_put_68 ?_
      refine V_l2i d_Model_put_69 ?_
      refine V_sipush (v := 255) d_Model_put_70 (by decide) ?_
      refine V_iand d_Model_put_73 ?_
      obtain ⟨w74, e74, h⟩ := ob h
      refine V_aset d_Model_put_74 e74 ?_
      refine V_aload_n (i := 0) d_Model_put_75 rfl 0 rfl ?_
      refine V_dup rfl d_Model_put_76 ?_
      obtain ⟨x77, e77, h⟩ := ob h
      refine V_getI (ci := 9) (k := 3) d_Model_put_77 e77 rfl (by decide) in_Model k885 ?_
      refine V_iconst (v := 1) d_Model_put_80 (by decide) ?_
      refine V_iadd d_Model_put_81 ?_
      obtain ⟨w82, e82, h⟩ := ob h
      refine V_putI (ci := 9) (k := 3) t_Model d_Model_put_82 e82 rfl (by decide) in_Model k885 ty_Model nm_Model rfl (Or.inl rfl) ?_
      refine V_iinc (i := 4) (v := (v4 + (-1 : Int32))) d_Model_put_85 2 rfl (congrArg (fun y => v4 + y) (by decide : Int32.ofInt (-1) = (-1 : Int32))) (by decide) rfl ?_
      refine V_goto (tgt := 42) d_Model_put_88 (by decide) ?_
      refine V_lv [1, 2, 0] rfl ?_
      exact hK42 v0 v1 (v4 + (-1 : Int32)) w82 _ h
def l_Model_put_42 (F : Nat) : Nat → Nat → Int64 → Int32 → zW → Option (Int32 × zW)
  | 0 => fun _ _ _ _ => none
  | n + 1 => b_Model_put_42 F (l_Model_put_42 F n)
theorem l_Model_put_42_ok (G : zG) (F : Nat) (n : Nat) :  ∀ (v0 : Nat) (v1 : Int64) (v4 : Int32) (w : zW) (r : (Int32 × zW)), l_Model_put_42 F n v0 v1 v4 w = some r → zV G m_Model_put 42 [(0, .ref (z0 G + v0)), (1, .long v1), (4, .int v4)] [] w 0 0 (oI r.1) r.2 := by
  induction n with
  | zero => intro v0 v1 v4 w r h; exact nomatch (show (none : Option (Int32 × zW)) = some r from h)
  | succ n ih => intro v0 v1 v4 w r h; exact b_Model_put_42_ok G F (l_Model_put_42 F n) ih v0 v1 v4 w r h
def b_Model_put_34 (F : Nat) (v0 : Nat) (v1 : Int64) (v3 : Int32) (s0 : Nat) (s1 : Int32) (w : zW) : Option (Int32 × zW) := (putI w s0 9 0 s1).bind fun w34 => l_Model_put_42 F F v0 v1 (v3 - (1 : Int32)) w34
set_option maxRecDepth 100000 in
set_option maxHeartbeats 4000000 in
theorem b_Model_put_34_ok (G : zG) (F : Nat) (v0 : Nat) (v1 : Int64) (v3 : Int32) (s0 : Nat) (s1 : Int32) (w : zW) (r : (Int32 × zW)) (h : b_Model_put_34 F v0 v1 v3 s0 s1 w = some r) : zV G m_Model_put 34 [(0, .ref (z0 G + v0)), (1, .long v1), (3, .int v3)] [.int s1, .ref (z0 G + s0)] w 0 0 (oI r.1) r.2 := by
  unfold b_Model_put_34 at h
  obtain ⟨w34, e34, h⟩ := ob h
  refine V_putI (ci := 9) (k := 0) t_Model d_Model_put_34 e34 rfl (by decide) in_Model k882 ty_Model nm_Model rfl (Or.inl rfl) ?_
  refine V_iload_n (i := 3) d_Model_put_37 rfl 2 rfl ?_
  refine V_iconst (v := 1) d_Model_put_38 (by decide) ?_
  refine V_isub d_Model_put_39 ?_
  refine V_istore (i := 4) d_Model_put_40 (by decide) rfl ?_
  refine V_lv [1, 2, 0] rfl ?_
  exact l_Model_put_42_ok G F F v0 v1 (v3 - (1 : Int32)) w34 _ h
def b_Model_put_0 (F : Nat) (v0 : Nat) (v1 : Int64) (v3 : Int32) (w : zW) : Option (Int32 × zW) := (f_Model_within F v3.toInt64 (1 : Int64) (8 : Int64) w).bind fun r7 => if r7.1 = 0 then (b_Model_put_34 F v0 v1 v3 v0 (1 : Int32) r7.2) else ((getI r7.2 v0 9 3).bind fun x18 => if (x18 + v3) ≤ (1600 : Int32) then (b_Model_put_34 F v0 v1 v3 v0 (0 : Int32) r7.2) else (b_Model_put_34 F v0 v1 v3 v0 (2 : Int32) r7.2))
set_option maxRecDepth 100000 in
set_option maxHeartbeats 4000000 in
theorem b_Model_put_0_ok (G : zG) (F : Nat) (v0 : Nat) (v1 : Int64) (v3 : Int32) (w : zW) (r : (Int32 × zW)) (h : b_Model_put_0 F v0 v1 v3 w = some r) : zV G m_Model_put 0 [(0, .ref (z0 G + v0)), (1, .long v1), (3, .int v3)] [] w 0 0 (oI r.1) r.2 := by
  unfold b_Model_put_0 at h
  refine V_aload_n (i := 0) d_Model_put_0 rfl 0 rfl ?_
  refine V_iload_n (i := 3) d_Model_put_1 rfl 2 rfl ?_
  refine V_i2l d_Model_put_2 ?_
  refine V_lconst (v := 1) d_Model_put_3 (by decide) ?_
  refine V_ldc2 (v := 8) d_Model_put_4 k994 ?_
  obtain ⟨r7, e7, h⟩ := ob h
  refine V_call (v := some (.int r7.1)) (st := [.ref (z0 G + v0)]) (inv_S (N := m_Model_within) (As := [.long v3.toInt64, .long (1 : Int64), .long (8 : Int64)]) d_Model_put_7 k995 k996 k10 (Or.inl kc_Model_within) y_Model_within) ⟨Or.inl kc_Model_within, k10, by decide, by decide⟩ (Nat.le_of_ble_eq_true rfl) (by decide) (by decide) (c_Model_within G F v3.toInt64 (1 : Int64) (8 : Int64) w r7 e7) ?_
  refine V_if_ne (tgt := 17) d_Model_put_10 (by decide) (fun c10 => ?_) (fun c10 => ?_)
  · rw [if_neg c10] at h
    refine V_aload_n (i := 0) d_Model_put_17 rfl 0 rfl ?_
    obtain ⟨x18, e18, h⟩ := ob h
    refine V_getI (ci := 9) (k := 3) d_Model_put_18 e18 rfl (by decide) in_Model k885 ?_
    refine V_iload_n (i := 3) d_Model_put_21 rfl 2 rfl ?_
    refine V_iadd d_Model_put_22 ?_
    refine V_sipush (v := 1600) d_Model_put_23 (by decide) ?_
    refine V_icmp_le (tgt := 33) d_Model_put_26 (by decide) (fun c26 => ?_) (fun c26 => ?_)
    · rw [if_pos c26] at h
      refine V_iconst (v := 0) d_Model_put_33 (by decide) ?_
      exact b_Model_put_34_ok G F v0 v1 v3 v0 (0 : Int32) r7.2 _ h
    · rw [if_neg c26] at h
      refine V_iconst (v := 2) d_Model_put_29 (by decide) ?_
      refine V_goto (tgt := 34) d_Model_put_30 (by decide) ?_
      exact b_Model_put_34_ok G F v0 v1 v3 v0 (2 : Int32) r7.2 _ h
  · rw [if_pos c10] at h
    refine V_iconst (v := 1) d_Model_put_13 (by decide) ?_
    refine V_goto (tgt := 34) d_Model_put_14 (by decide) ?_
    exact b_Model_put_34_ok G F v0 v1 v3 v0 (1 : Int32) r7.2 _ h
def f_Model_put (F : Nat) (v0 : Nat) (v1 : Int64) (v3 : Int32) (w : zW) : Option (Int32 × zW) := b_Model_put_0 F v0 v1 v3 w
theorem c_Model_put (G : zG) (F : Nat) (v0 : Nat) (v1 : Int64) (v3 : Int32) (w : zW) (r : (Int32 × zW)) (h : f_Model_put F v0 v1 v3 w = some r) : zCT G m_Model_put [.ref (z0 G + v0), .long v1, .int v3] w (oI r.1) r.2 := zCT.ofV (by decide +kernel) (Or.inl ⟨kc_Model_put, rfl⟩) (Nat.le_of_ble_eq_true rfl) (b_Model_put_0_ok G F v0 v1 v3 w r h)

/-! ZipArrayModel.cut(I)V -/
def m_Model_cut : zM := (⟨R_Model, "cut", "(I)V"⟩, prog_11_method_84_code, 2, none, [], { frames := 1, cells := 0, slots := 0, locals := 25 })
theorem kc_Model_cut : Cond.code (mY m_Model_cut) (mC m_Model_cut) (mL m_Model_cut) (mT m_Model_cut) ∈ zTb := tb_at 1327 (by decide +kernel) rfl
theorem y_Model_cut : (mY m_Model_cut).cls ≠ "java/lang/invoke/MethodHandle" ∧ (mY m_Model_cut).cls ≠ "java/lang/invoke/VarHandle" ∧ (parseMethodDescriptor (mY m_Model_cut).desc).map (fun d => d.parameters.length) = some 1 := by decide +kernel
theorem d_Model_cut_0 : decode (mC m_Model_cut) 0 = .ok (.aload_n 0, 1) := by decide +kernel
theorem d_Model_cut_1 : decode (mC m_Model_cut) 1 = .ok (.iload_n 1, 1) := by decide +kernel
theorem d_Model_cut_2 : decode (mC m_Model_cut) 2 = .ok (.i2l, 1) := by decide +kernel
theorem d_Model_cut_3 : decode (mC m_Model_cut) 3 = .ok (.lconst 0, 1) := by decide +kernel
theorem d_Model_cut_4 : decode (mC m_Model_cut) 4 = .ok (.aload_n 0, 1) := by decide +kernel
theorem d_Model_cut_5 : decode (mC m_Model_cut) 5 = .ok (.getfield 194, 3) := by decide +kernel
theorem d_Model_cut_8 : decode (mC m_Model_cut) 8 = .ok (.i2l, 1) := by decide +kernel
theorem d_Model_cut_9 : decode (mC m_Model_cut) 9 = .ok (.invokestatic 87, 3) := by decide +kernel
theorem d_Model_cut_12 : decode (mC m_Model_cut) 12 = .ok (.ifCond .eq 7, 3) := by decide +kernel
theorem d_Model_cut_15 : decode (mC m_Model_cut) 15 = .ok (.iconst 0, 1) := by decide +kernel
theorem d_Model_cut_16 : decode (mC m_Model_cut) 16 = .ok (.goto 4, 3) := by decide +kernel
theorem d_Model_cut_19 : decode (mC m_Model_cut) 19 = .ok (.iconst 1, 1) := by decide +kernel
theorem d_Model_cut_20 : decode (mC m_Model_cut) 20 = .ok (.putfield 70, 3) := by decide +kernel
theorem d_Model_cut_23 : decode (mC m_Model_cut) 23 = .ok (.aload_n 0, 1) := by decide +kernel
theorem d_Model_cut_24 : decode (mC m_Model_cut) 24 = .ok (.aload_n 0, 1) := by decide +kernel
theorem d_Model_cut_25 : decode (mC m_Model_cut) 25 = .ok (.getfield 70, 3) := by decide +kernel
theorem d_Model_cut_28 : decode (mC m_Model_cut) 28 = .ok (.ifCond .le 10, 3) := by decide +kernel
theorem d_Model_cut_31 : decode (mC m_Model_cut) 31 = .ok (.aload_n 0, 1) := by decide +kernel
theorem d_Model_cut_32 : decode (mC m_Model_cut) 32 = .ok (.getfield 194, 3) := by decide +kernel
theorem d_Model_cut_35 : decode (mC m_Model_cut) 35 = .ok (.goto 4, 3) := by decide +kernel
theorem d_Model_cut_38 : decode (mC m_Model_cut) 38 = .ok (.iload_n 1, 1) := by decide +kernel
theorem d_Model_cut_39 : decode (mC m_Model_cut) 39 = .ok (.putfield 194, 3) := by decide +kernel
theorem d_Model_cut_42 : decode (mC m_Model_cut) 42 = .ok (.return_, 1) := by decide +kernel
def b_Model_cut_39 (F : Nat) (s0 : Nat) (s1 : Int32) (w : zW) : Option (Unit × zW) := (putI w s0 9 3 s1).bind fun w39 => some ((), w39)
set_option maxRecDepth 100000 in
set_option maxHeartbeats 4000000 in
theorem b_Model_cut_39_ok (G : zG) (F : Nat) (s0 : Nat) (s1 : Int32) (w : zW) (r : (Unit × zW)) (h : b_Model_cut_39 F s0 s1 w = some r) : zV G m_Model_cut 39 [] [.int s1, .ref (z0 G + s0)] w 0 0 (oV r.1) r.2 := by
  unfold b_Model_cut_39 at h
  obtain ⟨w39, e39, h⟩ := ob h
  refine V_putI (ci := 9) (k := 3) t_Model d_Model_cut_39 e39 rfl (by decide) in_Model k885 ty_Model nm_Model rfl (Or.inl rfl) ?_
  obtain rfl := Option.some.inj h
  exact V_vret rfl (by decide) (by decide) d_Model_cut_42
def b_Model_cut_20 (F : Nat) (v0 : Nat) (v1 : Int32) (s0 : Nat) (s1 : Int32) (w : zW) : Option (Unit × zW) := (putI w s0 9 0 s1).bind fun w20 => (getI w20 v0 9 0).bind fun x25 => if x25 ≤ 0 then (b_Model_cut_39 F v0 v1 w20) else ((getI w20 v0 9 3).bind fun x32 => b_Model_cut_39 F v0 x32 w20)
set_option maxRecDepth 100000 in
set_option maxHeartbeats 4000000 in
theorem b_Model_cut_20_ok (G : zG) (F : Nat) (v0 : Nat) (v1 : Int32) (s0 : Nat) (s1 : Int32) (w : zW) (r : (Unit × zW)) (h : b_Model_cut_20 F v0 v1 s0 s1 w = some r) : zV G m_Model_cut 20 [(0, .ref (z0 G + v0)), (1, .int v1)] [.int s1, .ref (z0 G + s0)] w 0 0 (oV r.1) r.2 := by
  unfold b_Model_cut_20 at h
  obtain ⟨w20, e20, h⟩ := ob h
  refine V_putI (ci := 9) (k := 0) t_Model d_Model_cut_20 e20 rfl (by decide) in_Model k882 ty_Model nm_Model rfl (Or.inl rfl) ?_
  refine V_aload_n (i := 0) d_Model_cut_23 rfl 0 rfl ?_
  refine V_aload_n (i := 0) d_Model_cut_24 rfl 0 rfl ?_
  obtain ⟨x25, e25, h⟩ := ob h
  refine V_getI (ci := 9) (k := 0) d_Model_cut_25 e25 rfl (by decide) in_Model k882 ?_
  refine V_if_le (tgt := 38) d_Model_cut_28 (by decide) (fun c28 => ?_) (fun c28 => ?_)
  · rw [if_pos c28] at h
    refine V_iload_n (i := 1) d_Model_cut_38 rfl 1 rfl ?_
    refine V_lv [] rfl ?_
    exact b_Model_cut_39_ok G F v0 v1 w20 _ h
  · rw [if_neg c28] at h
    refine V_aload_n (i := 0) d_Model_cut_31 rfl 0 rfl ?_
    obtain ⟨x32, e32, h⟩ := ob h
    refine V_getI (ci := 9) (k := 3) d_Model_cut_32 e32 rfl (by decide) in_Model k885 ?_
    refine V_goto (tgt := 39) d_Model_cut_35 (by decide) ?_
    refine V_lv [] rfl ?_
    exact b_Model_cut_39_ok G F v0 x32 w20 _ h
def b_Model_cut_0 (F : Nat) (v0 : Nat) (v1 : Int32) (w : zW) : Option (Unit × zW) := (getI w v0 9 3).bind fun x5 => (f_Model_within F v1.toInt64 (0 : Int64) x5.toInt64 w).bind fun r9 => if r9.1 = 0 then (b_Model_cut_20 F v0 v1 v0 (1 : Int32) r9.2) else (b_Model_cut_20 F v0 v1 v0 (0 : Int32) r9.2)
set_option maxRecDepth 100000 in
set_option maxHeartbeats 4000000 in
theorem b_Model_cut_0_ok (G : zG) (F : Nat) (v0 : Nat) (v1 : Int32) (w : zW) (r : (Unit × zW)) (h : b_Model_cut_0 F v0 v1 w = some r) : zV G m_Model_cut 0 [(0, .ref (z0 G + v0)), (1, .int v1)] [] w 0 0 (oV r.1) r.2 := by
  unfold b_Model_cut_0 at h
  refine V_aload_n (i := 0) d_Model_cut_0 rfl 0 rfl ?_
  refine V_iload_n (i := 1) d_Model_cut_1 rfl 1 rfl ?_
  refine V_i2l d_Model_cut_2 ?_
  refine V_lconst (v := 0) d_Model_cut_3 (by decide) ?_
  refine V_aload_n (i := 0) d_Model_cut_4 rfl 0 rfl ?_
  obtain ⟨x5, e5, h⟩ := ob h
  refine V_getI (ci := 9) (k := 3) d_Model_cut_5 e5 rfl (by decide) in_Model k885 ?_
  refine V_i2l d_Model_cut_8 ?_
  obtain ⟨r9, e9, h⟩ := ob h
  refine V_call (v := some (.int r9.1)) (st := [.ref (z0 G + v0)]) (inv_S (N := m_Model_within) (As := [.long v1.toInt64, .long (0 : Int64), .long x5.toInt64]) d_Model_cut_9 k995 k996 k10 (Or.inl kc_Model_within) y_Model_within) ⟨Or.inl kc_Model_within, k10, by decide, by decide⟩ (Nat.le_of_ble_eq_true rfl) (by decide) (by decide) (c_Model_within G F v1.toInt64 (0 : Int64) x5.toInt64 w r9 e9) ?_
  refine V_if_eq (tgt := 19) d_Model_cut_12 (by decide) (fun c12 => ?_) (fun c12 => ?_)
  · rw [if_pos c12] at h
    refine V_iconst (v := 1) d_Model_cut_19 (by decide) ?_
    exact b_Model_cut_20_ok G F v0 v1 v0 (1 : Int32) r9.2 _ h
  · rw [if_neg c12] at h
    refine V_iconst (v := 0) d_Model_cut_15 (by decide) ?_
    refine V_goto (tgt := 20) d_Model_cut_16 (by decide) ?_
    exact b_Model_cut_20_ok G F v0 v1 v0 (0 : Int32) r9.2 _ h
def f_Model_cut (F : Nat) (v0 : Nat) (v1 : Int32) (w : zW) : Option (Unit × zW) := b_Model_cut_0 F v0 v1 w
theorem c_Model_cut (G : zG) (F : Nat) (v0 : Nat) (v1 : Int32) (w : zW) (r : (Unit × zW)) (h : f_Model_cut F v0 v1 w = some r) : zCT G m_Model_cut [.ref (z0 G + v0), .int v1] w (oV r.1) r.2 := zCT.ofV (by decide +kernel) (Or.inl ⟨kc_Model_cut, rfl⟩) (Nat.le_of_ble_eq_true rfl) (b_Model_cut_0_ok G F v0 v1 w r h)

/-! ZipArrayLaw.give(LZipArray;JI[J)I -/
def m_Law_give : zM := (⟨R_Law, "give", "(LZipArray;JI[J)I"⟩, method_3_code, 6, (some .int), [(0, 11, 14, 13), (0, 11, 18, 15)], { frames := 8, cells := 1, slots := 6, locals := 136 })
theorem k532 : Cond.classLink R_Law 13 R_IAE ∈ zTb := tb_at 532 (by decide +kernel) rfl
theorem k533 : Cond.classLink R_Law 15 R_ISE ∈ zTb := tb_at 533 (by decide +kernel) rfl
theorem k534 : Cond.methodLink R_Law 7 (mY m_Zip_give) ∈ zTb := tb_at 534 (by decide +kernel) rfl
theorem k535 : Cond.instanceMethod (mY m_Zip_give) ∈ zTb := tb_at 535 (by decide +kernel) rfl
theorem k536 : Cond.selects R_Zip (mY m_Zip_give) (mY m_Zip_give) ∈ zTb := tb_at 536 (by decide +kernel) rfl
theorem k543 : Cond.castable R_IAE R_IAE ∈ zTb := tb_at 543 (by decide +kernel) rfl
theorem k610 : Cond.castable R_ISE R_ISE ∈ zTb := tb_at 610 (by decide +kernel) rfl
theorem kc_Law_give : Cond.codeWith (mY m_Law_give) (mC m_Law_give) (mL m_Law_give) (mT m_Law_give) (mH m_Law_give) ∈ zTb := tb_at 531 (by decide +kernel) rfl
theorem y_Law_give : (mY m_Law_give).cls ≠ "java/lang/invoke/MethodHandle" ∧ (mY m_Law_give).cls ≠ "java/lang/invoke/VarHandle" ∧ (parseMethodDescriptor (mY m_Law_give).desc).map (fun d => d.parameters.length) = some 4 := by decide +kernel
theorem d_Law_give_0 : decode (mC m_Law_give) 0 = .ok (.aload 4, 2) := by decide +kernel
theorem d_Law_give_2 : decode (mC m_Law_give) 2 = .ok (.iconst 0, 1) := by decide +kernel
theorem d_Law_give_3 : decode (mC m_Law_give) 3 = .ok (.aload_n 0, 1) := by decide +kernel
theorem d_Law_give_4 : decode (mC m_Law_give) 4 = .ok (.lload_n 1, 1) := by decide +kernel
theorem d_Law_give_5 : decode (mC m_Law_give) 5 = .ok (.iload_n 3, 1) := by decide +kernel
theorem d_Law_give_6 : decode (mC m_Law_give) 6 = .ok (.invokevirtual 7, 3) := by decide +kernel
theorem d_Law_give_9 : decode (mC m_Law_give) 9 = .ok (.i2l, 1) := by decide +kernel
theorem d_Law_give_10 : decode (mC m_Law_give) 10 = .ok (.lastore, 1) := by decide +kernel
theorem d_Law_give_11 : decode (mC m_Law_give) 11 = .ok (.goto 11, 3) := by decide +kernel
theorem d_Law_give_14 : decode (mC m_Law_give) 14 = .ok (.astore 5, 2) := by decide +kernel
theorem d_Law_give_16 : decode (mC m_Law_give) 16 = .ok (.iconst 1, 1) := by decide +kernel
theorem d_Law_give_17 : decode (mC m_Law_give) 17 = .ok (.ireturn, 1) := by decide +kernel
theorem d_Law_give_18 : decode (mC m_Law_give) 18 = .ok (.astore 5, 2) := by decide +kernel
theorem d_Law_give_20 : decode (mC m_Law_give) 20 = .ok (.iconst 2, 1) := by decide +kernel
theorem d_Law_give_21 : decode (mC m_Law_give) 21 = .ok (.ireturn, 1) := by decide +kernel
theorem d_Law_give_22 : decode (mC m_Law_give) 22 = .ok (.iconst 0, 1) := by decide +kernel
theorem d_Law_give_23 : decode (mC m_Law_give) 23 = .ok (.ireturn, 1) := by decide +kernel
def b_Law_give_0 (F : Nat) (v0 : Nat) (v1 : Int64) (v3 : Int32) (v4 : Nat) (w : zW) : Option (Int32 × zW) := (zobj w v0 8).bind fun _ => (f_Zip_give F v0 v1 v3 w).bind fun r => match r with | (.inl x6, w6) => (lset w6 v4 (0 : Int32) x6.toInt64).bind fun w10 => some ((0 : Int32), w10) | (.inr qx6, w6) => if zobj w6 qx6 10 = some [] then (some ((1 : Int32), w6)) else if zobj w6 qx6 11 = some [] then (some ((2 : Int32), w6)) else none
set_option maxRecDepth 100000 in
set_option maxHeartbeats 4000000 in
theorem b_Law_give_0_ok (G : zG) (F : Nat) (v0 : Nat) (v1 : Int64) (v3 : Int32) (v4 : Nat) (w : zW) (r : (Int32 × zW)) (h : b_Law_give_0 F v0 v1 v3 v4 w = some r) : zV G m_Law_give 0 [(0, .ref (z0 G + v0)), (1, .long v1), (3, .int v3), (4, .ref (z0 G + v4))] [] w 0 0 (oI r.1) r.2 := by
  unfold b_Law_give_0 at h
  refine V_aload (i := 4) d_Law_give_0 3 rfl ?_
  refine V_iconst (v := 0) d_Law_give_2 (by decide) ?_
  refine V_aload_n (i := 0) d_Law_give_3 rfl 0 rfl ?_
  refine V_lload_n (i := 1) d_Law_give_4 rfl 1 rfl ?_
  refine V_iload_n (i := 3) d_Law_give_5 rfl 2 rfl ?_
  obtain ⟨_, eo6, h⟩ := ob h
  obtain ⟨⟨x6 | qx6, w6⟩, e6, h⟩ := ob h
  · dsimp only at h
    refine V_call (v := some (.int x6)) (st := [.int (0 : Int32), .ref (z0 G + v4)]) (inv_V (N := m_Zip_give) (As := [.long v1, .int v3]) (ci := 8) d_Law_give_6 eo6 rfl k534 k535 k536 kc_Zip_give y_Zip_give) ⟨Or.inl kc_Zip_give, k1, by decide, by decide⟩ (Nat.le_of_ble_eq_true rfl) (by decide) (by decide) (c_Zip_give G F v0 v1 v3 w _ e6) ?_
    refine V_i2l d_Law_give_9 ?_
    obtain ⟨w10, e10, h⟩ := ob h
    refine V_lset d_Law_give_10 e10 ?_
    refine V_goto (tgt := 22) d_Law_give_11 (by decide) ?_
    refine V_iconst (v := 0) d_Law_give_22 (by decide) ?_
    obtain rfl := Option.some.inj h
    exact V_iret rfl (by decide) (by decide) d_Law_give_23
  · dsimp only at h
    by_cases g6_0 : zobj w6 qx6 10 = some []
    · rw [if_pos g6_0] at h
      refine V_callC (ci := 10) (X := R_IAE) (pre := []) (q := (0, 11, 14, 13)) (rest := [(0, 11, 18, 15)]) (st := [.int (0 : Int32), .ref (z0 G + v4)]) (inv_V (N := m_Zip_give) (As := [.long v1, .int v3]) (ci := 8) d_Law_give_6 eo6 rfl k534 k535 k536 kc_Zip_give y_Zip_give) ⟨Or.inl kc_Zip_give, k1, by decide, by decide⟩ (Nat.le_of_ble_eq_true rfl) (by decide) (by decide) (c_Zip_give G F v0 v1 v3 w _ e6) g6_0 rfl rfl (fun x hx => absurd hx List.not_mem_nil) (by decide) k532 k543 ?_
      refine V_astore (i := 5) d_Law_give_14 (by decide) rfl ?_
      refine V_iconst (v := 1) d_Law_give_16 (by decide) ?_
      obtain rfl := Option.some.inj h
      exact V_iret rfl (by decide) (by decide) d_Law_give_17
    rw [if_neg g6_0] at h
    by_cases g6_1 : zobj w6 qx6 11 = some []
    · rw [if_pos g6_1] at h
      refine V_callC (ci := 11) (X := R_ISE) (pre := [(0, 11, 14, 13)]) (q := (0, 11, 18, 15)) (rest := []) (st := [.int (0 : Int32), .ref (z0 G + v4)]) (inv_V (N := m_Zip_give) (As := [.long v1, .int v3]) (ci := 8) d_Law_give_6 eo6 rfl k534 k535 k536 kc_Zip_give y_Zip_give) ⟨Or.inl kc_Zip_give, k1, by decide, by decide⟩ (Nat.le_of_ble_eq_true rfl) (by decide) (by decide) (c_Zip_give G F v0 v1 v3 w _ e6) g6_1 rfl rfl (fun x hx => by simp only [List.mem_cons, List.not_mem_nil, or_false] at hx; subst hx; first | exact ⟨by decide, by decide, R_IAE, k532, by decide +kernel⟩) (by decide) k533 k610 ?_
      refine V_astore (i := 5) d_Law_give_18 (by decide) rfl ?_
      refine V_iconst (v := 2) d_Law_give_20 (by decide) ?_
      obtain rfl := Option.some.inj h
      exact V_iret rfl (by decide) (by decide) d_Law_give_21
    rw [if_neg g6_1] at h
    cases h
def f_Law_give (F : Nat) (v0 : Nat) (v1 : Int64) (v3 : Int32) (v4 : Nat) (w : zW) : Option (Int32 × zW) := b_Law_give_0 F v0 v1 v3 v4 w
theorem c_Law_give (G : zG) (F : Nat) (v0 : Nat) (v1 : Int64) (v3 : Int32) (v4 : Nat) (w : zW) (r : (Int32 × zW)) (h : f_Law_give F v0 v1 v3 v4 w = some r) : zCT G m_Law_give [.ref (z0 G + v0), .long v1, .int v3, .ref (z0 G + v4)] w (oI r.1) r.2 := zCT.ofV (by decide +kernel) (Or.inr kc_Law_give) (Nat.le_of_ble_eq_true rfl) (b_Law_give_0_ok G F v0 v1 v3 v4 w r h)

/-! ZipArrayLaw.fill(LZipArray;II[J)I -/
def m_Law_fill : zM := (⟨R_Law, "fill", "(LZipArray;II[J)I"⟩, method_4_code, 5, (some .int), [(0, 10, 13, 13), (0, 10, 17, 15)], { frames := 7, cells := 1, slots := 6, locals := 113 })
theorem k630 : Cond.methodLink R_Law 17 (mY m_Zip_fill) ∈ zTb := tb_at 630 (by decide +kernel) rfl
theorem k631 : Cond.instanceMethod (mY m_Zip_fill) ∈ zTb := tb_at 631 (by decide +kernel) rfl
theorem k632 : Cond.selects R_Zip (mY m_Zip_fill) (mY m_Zip_fill) ∈ zTb := tb_at 632 (by decide +kernel) rfl
theorem kc_Law_fill : Cond.codeWith (mY m_Law_fill) (mC m_Law_fill) (mL m_Law_fill) (mT m_Law_fill) (mH m_Law_fill) ∈ zTb := tb_at 629 (by decide +kernel) rfl
theorem y_Law_fill : (mY m_Law_fill).cls ≠ "java/lang/invoke/MethodHandle" ∧ (mY m_Law_fill).cls ≠ "java/lang/invoke/VarHandle" ∧ (parseMethodDescriptor (mY m_Law_fill).desc).map (fun d => d.parameters.length) = some 4 := by decide +kernel
theorem d_Law_fill_0 : decode (mC m_Law_fill) 0 = .ok (.aload_n 3, 1) := by decide +kernel
theorem d_Law_fill_1 : decode (mC m_Law_fill) 1 = .ok (.iconst 0, 1) := by decide +kernel
theorem d_Law_fill_2 : decode (mC m_Law_fill) 2 = .ok (.aload_n 0, 1) := by decide +kernel
theorem d_Law_fill_3 : decode (mC m_Law_fill) 3 = .ok (.iload_n 1, 1) := by decide +kernel
theorem d_Law_fill_4 : decode (mC m_Law_fill) 4 = .ok (.iload_n 2, 1) := by decide +kernel
theorem d_Law_fill_5 : decode (mC m_Law_fill) 5 = .ok (.invokevirtual 17, 3) := by decide +kernel
theorem d_Law_fill_8 : decode (mC m_Law_fill) 8 = .ok (.i2l, 1) := by decide +kernel
theorem d_Law_fill_9 : decode (mC m_Law_fill) 9 = .ok (.lastore, 1) := by decide +kernel
theorem d_Law_fill_10 : decode (mC m_Law_fill) 10 = .ok (.goto 11, 3) := by decide +kernel
theorem d_Law_fill_13 : decode (mC m_Law_fill) 13 = .ok (.astore 4, 2) := by decide +kernel
theorem d_Law_fill_15 : decode (mC m_Law_fill) 15 = .ok (.iconst 1, 1) := by decide +kernel
theorem d_Law_fill_16 : decode (mC m_Law_fill) 16 = .ok (.ireturn, 1) := by decide +kernel
theorem d_Law_fill_17 : decode (mC m_Law_fill) 17 = .ok (.astore 4, 2) := by decide +kernel
theorem d_Law_fill_19 : decode (mC m_Law_fill) 19 = .ok (.iconst 2, 1) := by decide +kernel
theorem d_Law_fill_20 : decode (mC m_Law_fill) 20 = .ok (.ireturn, 1) := by decide +kernel
theorem d_Law_fill_21 : decode (mC m_Law_fill) 21 = .ok (.iconst 0, 1) := by decide +kernel
theorem d_Law_fill_22 : decode (mC m_Law_fill) 22 = .ok (.ireturn, 1) := by decide +kernel
def b_Law_fill_0 (F : Nat) (v0 : Nat) (v1 : Int32) (v2 : Int32) (v3 : Nat) (w : zW) : Option (Int32 × zW) := (zobj w v0 8).bind fun _ => (f_Zip_fill F v0 v1 v2 w).bind fun r => match r with | (.inl x5, w5) => (lset w5 v3 (0 : Int32) x5.toInt64).bind fun w9 => some ((0 : Int32), w9) | (.inr qx5, w5) => if zobj w5 qx5 10 = some [] then (some ((1 : Int32), w5)) else if zobj w5 qx5 11 = some [] then (some ((2 : Int32), w5)) else none
set_option maxRecDepth 100000 in
set_option maxHeartbeats 4000000 in
theorem b_Law_fill_0_ok (G : zG) (F : Nat) (v0 : Nat) (v1 : Int32) (v2 : Int32) (v3 : Nat) (w : zW) (r : (Int32 × zW)) (h : b_Law_fill_0 F v0 v1 v2 v3 w = some r) : zV G m_Law_fill 0 [(0, .ref (z0 G + v0)), (1, .int v1), (2, .int v2), (3, .ref (z0 G + v3))] [] w 0 0 (oI r.1) r.2 := by
  unfold b_Law_fill_0 at h
  refine V_aload_n (i := 3) d_Law_fill_0 rfl 3 rfl ?_
  refine V_iconst (v := 0) d_Law_fill_1 (by decide) ?_
  refine V_aload_n (i := 0) d_Law_fill_2 rfl 0 rfl ?_
  refine V_iload_n (i := 1) d_Law_fill_3 rfl 1 rfl ?_
  refine V_iload_n (i := 2) d_Law_fill_4 rfl 2 rfl ?_
  obtain ⟨_, eo5, h⟩ := ob h
  obtain ⟨⟨x5 | qx5, w5⟩, e5, h⟩ := ob h
  · dsimp only at h
    refine V_call (v := some (.int x5)) (st := [.int (0 : Int32), .ref (z0 G + v3)]) (inv_V (N := m_Zip_fill) (As := [.int v1, .int v2]) (ci := 8) d_Law_fill_5 eo5 rfl k630 k631 k632 kc_Zip_fill y_Zip_fill) ⟨Or.inl kc_Zip_fill, k1, by decide, by decide⟩ (Nat.le_of_ble_eq_true rfl) (by decide) (by decide) (c_Zip_fill G F v0 v1 v2 w _ e5) ?_
    refine V_i2l d_Law_fill_8 ?_
    obtain ⟨w9, e9, h⟩ := ob h
    refine V_lset d_Law_fill_9 e9 ?_
    refine V_goto (tgt := 21) d_Law_fill_10 (by decide) ?_
    refine V_iconst (v := 0) d_Law_fill_21 (by decide) ?_
    obtain rfl := Option.some.inj h
    exact V_iret rfl (by decide) (by decide) d_Law_fill_22
  · dsimp only at h
    by_cases g5_0 : zobj w5 qx5 10 = some []
    · rw [if_pos g5_0] at h
      refine V_callC (ci := 10) (X := R_IAE) (pre := []) (q := (0, 10, 13, 13)) (rest := [(0, 10, 17, 15)]) (st := [.int (0 : Int32), .ref (z0 G + v3)]) (inv_V (N := m_Zip_fill) (As := [.int v1, .int v2]) (ci := 8) d_Law_fill_5 eo5 rfl k630 k631 k632 kc_Zip_fill y_Zip_fill) ⟨Or.inl kc_Zip_fill, k1, by decide, by decide⟩ (Nat.le_of_ble_eq_true rfl) (by decide) (by decide) (c_Zip_fill G F v0 v1 v2 w _ e5) g5_0 rfl rfl (fun x hx => absurd hx List.not_mem_nil) (by decide) k532 k543 ?_
      refine V_astore (i := 4) d_Law_fill_13 (by decide) rfl ?_
      refine V_iconst (v := 1) d_Law_fill_15 (by decide) ?_
      obtain rfl := Option.some.inj h
      exact V_iret rfl (by decide) (by decide) d_Law_fill_16
    rw [if_neg g5_0] at h
    by_cases g5_1 : zobj w5 qx5 11 = some []
    · rw [if_pos g5_1] at h
      refine V_callC (ci := 11) (X := R_ISE) (pre := [(0, 10, 13, 13)]) (q := (0, 10, 17, 15)) (rest := []) (st := [.int (0 : Int32), .ref (z0 G + v3)]) (inv_V (N := m_Zip_fill) (As := [.int v1, .int v2]) (ci := 8) d_Law_fill_5 eo5 rfl k630 k631 k632 kc_Zip_fill y_Zip_fill) ⟨Or.inl kc_Zip_fill, k1, by decide, by decide⟩ (Nat.le_of_ble_eq_true rfl) (by decide) (by decide) (c_Zip_fill G F v0 v1 v2 w _ e5) g5_1 rfl rfl (fun x hx => by simp only [List.mem_cons, List.not_mem_nil, or_false] at hx; subst hx; first | exact ⟨by decide, by decide, R_IAE, k532, by decide +kernel⟩) (by decide) k533 k610 ?_
      refine V_astore (i := 4) d_Law_fill_17 (by decide) rfl ?_
      refine V_iconst (v := 2) d_Law_fill_19 (by decide) ?_
      obtain rfl := Option.some.inj h
      exact V_iret rfl (by decide) (by decide) d_Law_fill_20
    rw [if_neg g5_1] at h
    cases h
def f_Law_fill (F : Nat) (v0 : Nat) (v1 : Int32) (v2 : Int32) (v3 : Nat) (w : zW) : Option (Int32 × zW) := b_Law_fill_0 F v0 v1 v2 v3 w
theorem c_Law_fill (G : zG) (F : Nat) (v0 : Nat) (v1 : Int32) (v2 : Int32) (v3 : Nat) (w : zW) (r : (Int32 × zW)) (h : f_Law_fill F v0 v1 v2 v3 w = some r) : zCT G m_Law_fill [.ref (z0 G + v0), .int v1, .int v2, .ref (z0 G + v3)] w (oI r.1) r.2 := zCT.ofV (by decide +kernel) (Or.inr kc_Law_fill) (Nat.le_of_ble_eq_true rfl) (b_Law_fill_0_ok G F v0 v1 v2 v3 w r h)

/-! ZipArrayLaw.at(LZipArray;I[J)I -/
def m_Law_at : zM := (⟨R_Law, "at", "(LZipArray;I[J)I"⟩, method_5_code, 4, (some .int), [(0, 9, 12, 25)], { frames := 7, cells := 1, slots := 6, locals := 111 })
theorem k641 : Cond.classLink R_Law 25 R_IOOBE ∈ zTb := tb_at 641 (by decide +kernel) rfl
theorem k642 : Cond.methodLink R_Law 21 (mY m_Zip_at) ∈ zTb := tb_at 642 (by decide +kernel) rfl
theorem k643 : Cond.instanceMethod (mY m_Zip_at) ∈ zTb := tb_at 643 (by decide +kernel) rfl
theorem k644 : Cond.selects R_Zip (mY m_Zip_at) (mY m_Zip_at) ∈ zTb := tb_at 644 (by decide +kernel) rfl
theorem k649 : Cond.castable R_IOOBE R_IOOBE ∈ zTb := tb_at 649 (by decide +kernel) rfl
theorem kc_Law_at : Cond.codeWith (mY m_Law_at) (mC m_Law_at) (mL m_Law_at) (mT m_Law_at) (mH m_Law_at) ∈ zTb := tb_at 640 (by decide +kernel) rfl
theorem y_Law_at : (mY m_Law_at).cls ≠ "java/lang/invoke/MethodHandle" ∧ (mY m_Law_at).cls ≠ "java/lang/invoke/VarHandle" ∧ (parseMethodDescriptor (mY m_Law_at).desc).map (fun d => d.parameters.length) = some 3 := by decide +kernel
theorem d_Law_at_0 : decode (mC m_Law_at) 0 = .ok (.aload_n 2, 1) := by decide +kernel
theorem d_Law_at_1 : decode (mC m_Law_at) 1 = .ok (.iconst 0, 1) := by decide +kernel
theorem d_Law_at_2 : decode (mC m_Law_at) 2 = .ok (.aload_n 0, 1) := by decide +kernel
theorem d_Law_at_3 : decode (mC m_Law_at) 3 = .ok (.iload_n 1, 1) := by decide +kernel
theorem d_Law_at_4 : decode (mC m_Law_at) 4 = .ok (.invokevirtual 21, 3) := by decide +kernel
theorem d_Law_at_7 : decode (mC m_Law_at) 7 = .ok (.i2l, 1) := by decide +kernel
theorem d_Law_at_8 : decode (mC m_Law_at) 8 = .ok (.lastore, 1) := by decide +kernel
theorem d_Law_at_9 : decode (mC m_Law_at) 9 = .ok (.goto 6, 3) := by decide +kernel
theorem d_Law_at_12 : decode (mC m_Law_at) 12 = .ok (.astore_n 3, 1) := by decide +kernel
theorem d_Law_at_13 : decode (mC m_Law_at) 13 = .ok (.iconst 1, 1) := by decide +kernel
theorem d_Law_at_14 : decode (mC m_Law_at) 14 = .ok (.ireturn, 1) := by decide +kernel
theorem d_Law_at_15 : decode (mC m_Law_at) 15 = .ok (.iconst 0, 1) := by decide +kernel
theorem d_Law_at_16 : decode (mC m_Law_at) 16 = .ok (.ireturn, 1) := by decide +kernel
def b_Law_at_0 (F : Nat) (v0 : Nat) (v1 : Int32) (v2 : Nat) (w : zW) : Option (Int32 × zW) := (zobj w v0 8).bind fun _ => (f_Zip_at F v0 v1 w).bind fun r => match r with | (.inl x4, w4) => (lset w4 v2 (0 : Int32) x4.toInt64).bind fun w8 => some ((0 : Int32), w8) | (.inr qx4, w4) => if zobj w4 qx4 12 = some [] then (some ((1 : Int32), w4)) else none
set_option maxRecDepth 100000 in
set_option maxHeartbeats 4000000 in
theorem b_Law_at_0_ok (G : zG) (F : Nat) (v0 : Nat) (v1 : Int32) (v2 : Nat) (w : zW) (r : (Int32 × zW)) (h : b_Law_at_0 F v0 v1 v2 w = some r) : zV G m_Law_at 0 [(0, .ref (z0 G + v0)), (1, .int v1), (2, .ref (z0 G + v2))] [] w 0 0 (oI r.1) r.2 := by
  unfold b_Law_at_0 at h
  refine V_aload_n (i := 2) d_Law_at_0 rfl 2 rfl ?_
  refine V_iconst (v := 0) d_Law_at_1 (by decide) ?_
  refine V_aload_n (i := 0) d_Law_at_2 rfl 0 rfl ?_
  refine V_iload_n (i := 1) d_Law_at_3 rfl 1 rfl ?_
  obtain ⟨_, eo4, h⟩ := ob h
  obtain ⟨⟨x4 | qx4, w4⟩, e4, h⟩ := ob h
  · dsimp only at h
    refine V_call (v := some (.int x4)) (st := [.int (0 : Int32), .ref (z0 G + v2)]) (inv_V (N := m_Zip_at) (As := [.int v1]) (ci := 8) d_Law_at_4 eo4 rfl k642 k643 k644 kc_Zip_at y_Zip_at) ⟨Or.inl kc_Zip_at, k1, by decide, by decide⟩ (Nat.le_of_ble_eq_true rfl) (by decide) (by decide) (c_Zip_at G F v0 v1 w _ e4) ?_
    refine V_i2l d_Law_at_7 ?_
    obtain ⟨w8, e8, h⟩ := ob h
    refine V_lset d_Law_at_8 e8 ?_
    refine V_goto (tgt := 15) d_Law_at_9 (by decide) ?_
    refine V_iconst (v := 0) d_Law_at_15 (by decide) ?_
    obtain rfl := Option.some.inj h
    exact V_iret rfl (by decide) (by decide) d_Law_at_16
  · dsimp only at h
    by_cases g4_0 : zobj w4 qx4 12 = some []
    · rw [if_pos g4_0] at h
      refine V_callC (ci := 12) (X := R_IOOBE) (pre := []) (q := (0, 9, 12, 25)) (rest := []) (st := [.int (0 : Int32), .ref (z0 G + v2)]) (inv_V (N := m_Zip_at) (As := [.int v1]) (ci := 8) d_Law_at_4 eo4 rfl k642 k643 k644 kc_Zip_at y_Zip_at) ⟨Or.inl kc_Zip_at, k1, by decide, by decide⟩ (Nat.le_of_ble_eq_true rfl) (by decide) (by decide) (c_Zip_at G F v0 v1 w _ e4) g4_0 rfl rfl (fun x hx => absurd hx List.not_mem_nil) (by decide) k641 k649 ?_
      refine V_astore_n (i := 3) d_Law_at_12 rfl (by decide) rfl ?_
      refine V_iconst (v := 1) d_Law_at_13 (by decide) ?_
      obtain rfl := Option.some.inj h
      exact V_iret rfl (by decide) (by decide) d_Law_at_14
    rw [if_neg g4_0] at h
    cases h
def f_Law_at (F : Nat) (v0 : Nat) (v1 : Int32) (v2 : Nat) (w : zW) : Option (Int32 × zW) := b_Law_at_0 F v0 v1 v2 w
theorem c_Law_at (G : zG) (F : Nat) (v0 : Nat) (v1 : Int32) (v2 : Nat) (w : zW) (r : (Int32 × zW)) (h : f_Law_at F v0 v1 v2 w = some r) : zCT G m_Law_at [.ref (z0 G + v0), .int v1, .ref (z0 G + v2)] w (oI r.1) r.2 := zCT.ofV (by decide +kernel) (Or.inr kc_Law_at) (Nat.le_of_ble_eq_true rfl) (b_Law_at_0_ok G F v0 v1 v2 w r h)

/-! ZipArrayLaw.pack(LZipArray;[J)I -/
def m_Law_pack : zM := (⟨R_Law, "pack", "(LZipArray;[J)I"⟩, method_6_code, 3, (some .int), [(0, 8, 11, 15)], { frames := 7, cells := 1, slots := 6, locals := 154 })
theorem k666 : Cond.methodLink R_Law 27 (mY m_Zip_pack) ∈ zTb := tb_at 666 (by decide +kernel) rfl
theorem k667 : Cond.instanceMethod (mY m_Zip_pack) ∈ zTb := tb_at 667 (by decide +kernel) rfl
theorem k668 : Cond.selects R_Zip (mY m_Zip_pack) (mY m_Zip_pack) ∈ zTb := tb_at 668 (by decide +kernel) rfl
theorem kc_Law_pack : Cond.codeWith (mY m_Law_pack) (mC m_Law_pack) (mL m_Law_pack) (mT m_Law_pack) (mH m_Law_pack) ∈ zTb := tb_at 665 (by decide +kernel) rfl
theorem y_Law_pack : (mY m_Law_pack).cls ≠ "java/lang/invoke/MethodHandle" ∧ (mY m_Law_pack).cls ≠ "java/lang/invoke/VarHandle" ∧ (parseMethodDescriptor (mY m_Law_pack).desc).map (fun d => d.parameters.length) = some 2 := by decide +kernel
theorem d_Law_pack_0 : decode (mC m_Law_pack) 0 = .ok (.aload_n 1, 1) := by decide +kernel
theorem d_Law_pack_1 : decode (mC m_Law_pack) 1 = .ok (.iconst 0, 1) := by decide +kernel
theorem d_Law_pack_2 : decode (mC m_Law_pack) 2 = .ok (.aload_n 0, 1) := by decide +kernel
theorem d_Law_pack_3 : decode (mC m_Law_pack) 3 = .ok (.invokevirtual 27, 3) := by decide +kernel
theorem d_Law_pack_6 : decode (mC m_Law_pack) 6 = .ok (.i2l, 1) := by decide +kernel
theorem d_Law_pack_7 : decode (mC m_Law_pack) 7 = .ok (.lastore, 1) := by decide +kernel
theorem d_Law_pack_8 : decode (mC m_Law_pack) 8 = .ok (.goto 6, 3) := by decide +kernel
theorem d_Law_pack_11 : decode (mC m_Law_pack) 11 = .ok (.astore_n 2, 1) := by decide +kernel
theorem d_Law_pack_12 : decode (mC m_Law_pack) 12 = .ok (.iconst 1, 1) := by decide +kernel
theorem d_Law_pack_13 : decode (mC m_Law_pack) 13 = .ok (.ireturn, 1) := by decide +kernel
theorem d_Law_pack_14 : decode (mC m_Law_pack) 14 = .ok (.iconst 0, 1) := by decide +kernel
theorem d_Law_pack_15 : decode (mC m_Law_pack) 15 = .ok (.ireturn, 1) := by decide +kernel
def b_Law_pack_0 (F : Nat) (v0 : Nat) (v1 : Nat) (w : zW) : Option (Int32 × zW) := (zobj w v0 8).bind fun _ => (f_Zip_pack F v0 w).bind fun r => match r with | (.inl x3, w3) => (lset w3 v1 (0 : Int32) x3.toInt64).bind fun w7 => some ((0 : Int32), w7) | (.inr qx3, w3) => if zobj w3 qx3 11 = some [] then (some ((1 : Int32), w3)) else none
set_option maxRecDepth 100000 in
set_option maxHeartbeats 4000000 in
theorem b_Law_pack_0_ok (G : zG) (F : Nat) (v0 : Nat) (v1 : Nat) (w : zW) (r : (Int32 × zW)) (h : b_Law_pack_0 F v0 v1 w = some r) : zV G m_Law_pack 0 [(0, .ref (z0 G + v0)), (1, .ref (z0 G + v1))] [] w 0 0 (oI r.1) r.2 := by
  unfold b_Law_pack_0 at h
  refine V_aload_n (i := 1) d_Law_pack_0 rfl 1 rfl ?_
  refine V_iconst (v := 0) d_Law_pack_1 (by decide) ?_
  refine V_aload_n (i := 0) d_Law_pack_2 rfl 0 rfl ?_
  obtain ⟨_, eo3, h⟩ := ob h
  obtain ⟨⟨x3 | qx3, w3⟩, e3, h⟩ := ob h
  · dsimp only at h
    refine V_call (v := some (.int x3)) (st := [.int (0 : Int32), .ref (z0 G + v1)]) (inv_V (N := m_Zip_pack) (As := []) (ci := 8) d_Law_pack_3 eo3 rfl k666 k667 k668 kc_Zip_pack y_Zip_pack) ⟨Or.inl kc_Zip_pack, k1, by decide, by decide⟩ (Nat.le_of_ble_eq_true rfl) (by decide) (by decide) (c_Zip_pack G F v0 w _ e3) ?_
    refine V_i2l d_Law_pack_6 ?_
    obtain ⟨w7, e7, h⟩ := ob h
    refine V_lset d_Law_pack_7 e7 ?_
    refine V_goto (tgt := 14) d_Law_pack_8 (by decide) ?_
    refine V_iconst (v := 0) d_Law_pack_14 (by decide) ?_
    obtain rfl := Option.some.inj h
    exact V_iret rfl (by decide) (by decide) d_Law_pack_15
  · dsimp only at h
    by_cases g3_0 : zobj w3 qx3 11 = some []
    · rw [if_pos g3_0] at h
      refine V_callC (ci := 11) (X := R_ISE) (pre := []) (q := (0, 8, 11, 15)) (rest := []) (st := [.int (0 : Int32), .ref (z0 G + v1)]) (inv_V (N := m_Zip_pack) (As := []) (ci := 8) d_Law_pack_3 eo3 rfl k666 k667 k668 kc_Zip_pack y_Zip_pack) ⟨Or.inl kc_Zip_pack, k1, by decide, by decide⟩ (Nat.le_of_ble_eq_true rfl) (by decide) (by decide) (c_Zip_pack G F v0 w _ e3) g3_0 rfl rfl (fun x hx => absurd hx List.not_mem_nil) (by decide) k533 k610 ?_
      refine V_astore_n (i := 2) d_Law_pack_11 rfl (by decide) rfl ?_
      refine V_iconst (v := 1) d_Law_pack_12 (by decide) ?_
      obtain rfl := Option.some.inj h
      exact V_iret rfl (by decide) (by decide) d_Law_pack_13
    rw [if_neg g3_0] at h
    cases h
def f_Law_pack (F : Nat) (v0 : Nat) (v1 : Nat) (w : zW) : Option (Int32 × zW) := b_Law_pack_0 F v0 v1 w
theorem c_Law_pack (G : zG) (F : Nat) (v0 : Nat) (v1 : Nat) (w : zW) (r : (Int32 × zW)) (h : f_Law_pack F v0 v1 w = some r) : zCT G m_Law_pack [.ref (z0 G + v0), .ref (z0 G + v1)] w (oI r.1) r.2 := zCT.ofV (by decide +kernel) (Or.inr kc_Law_pack) (Nat.le_of_ble_eq_true rfl) (b_Law_pack_0_ok G F v0 v1 w r h)

/-! ZipArrayLaw.unpack(LZipArray;[J)I -/
def m_Law_unpack : zM := (⟨R_Law, "unpack", "(LZipArray;[J)I"⟩, method_7_code, 3, (some .int), [(0, 8, 11, 34)], { frames := 7, cells := 1, slots := 6, locals := 126 })
theorem k710 : Cond.classLink R_Law 34 R_AE ∈ zTb := tb_at 710 (by decide +kernel) rfl
theorem k711 : Cond.methodLink R_Law 31 (mY m_Zip_unpack) ∈ zTb := tb_at 711 (by decide +kernel) rfl
theorem k712 : Cond.instanceMethod (mY m_Zip_unpack) ∈ zTb := tb_at 712 (by decide +kernel) rfl
theorem k713 : Cond.selects R_Zip (mY m_Zip_unpack) (mY m_Zip_unpack) ∈ zTb := tb_at 713 (by decide +kernel) rfl
theorem k717 : Cond.castable R_AE R_AE ∈ zTb := tb_at 717 (by decide +kernel) rfl
theorem kc_Law_unpack : Cond.codeWith (mY m_Law_unpack) (mC m_Law_unpack) (mL m_Law_unpack) (mT m_Law_unpack) (mH m_Law_unpack) ∈ zTb := tb_at 709 (by decide +kernel) rfl
theorem y_Law_unpack : (mY m_Law_unpack).cls ≠ "java/lang/invoke/MethodHandle" ∧ (mY m_Law_unpack).cls ≠ "java/lang/invoke/VarHandle" ∧ (parseMethodDescriptor (mY m_Law_unpack).desc).map (fun d => d.parameters.length) = some 2 := by decide +kernel
theorem d_Law_unpack_0 : decode (mC m_Law_unpack) 0 = .ok (.aload_n 1, 1) := by decide +kernel
theorem d_Law_unpack_1 : decode (mC m_Law_unpack) 1 = .ok (.iconst 0, 1) := by decide +kernel
theorem d_Law_unpack_2 : decode (mC m_Law_unpack) 2 = .ok (.aload_n 0, 1) := by decide +kernel
theorem d_Law_unpack_3 : decode (mC m_Law_unpack) 3 = .ok (.invokevirtual 31, 3) := by decide +kernel
theorem d_Law_unpack_6 : decode (mC m_Law_unpack) 6 = .ok (.i2l, 1) := by decide +kernel
theorem d_Law_unpack_7 : decode (mC m_Law_unpack) 7 = .ok (.lastore, 1) := by decide +kernel
theorem d_Law_unpack_8 : decode (mC m_Law_unpack) 8 = .ok (.goto 6, 3) := by decide +kernel
theorem d_Law_unpack_11 : decode (mC m_Law_unpack) 11 = .ok (.astore_n 2, 1) := by decide +kernel
theorem d_Law_unpack_12 : decode (mC m_Law_unpack) 12 = .ok (.iconst 1, 1) := by decide +kernel
theorem d_Law_unpack_13 : decode (mC m_Law_unpack) 13 = .ok (.ireturn, 1) := by decide +kernel
theorem d_Law_unpack_14 : decode (mC m_Law_unpack) 14 = .ok (.iconst 0, 1) := by decide +kernel
theorem d_Law_unpack_15 : decode (mC m_Law_unpack) 15 = .ok (.ireturn, 1) := by decide +kernel
def b_Law_unpack_0 (F : Nat) (v0 : Nat) (v1 : Nat) (w : zW) : Option (Int32 × zW) := (zobj w v0 8).bind fun _ => (f_Zip_unpack F v0 w).bind fun r => match r with | (.inl x3, w3) => (lset w3 v1 (0 : Int32) x3.toInt64).bind fun w7 => some ((0 : Int32), w7) | (.inr qx3, w3) => if zobj w3 qx3 13 = some [] then (some ((1 : Int32), w3)) else none
set_option maxRecDepth 100000 in
set_option maxHeartbeats 4000000 in
theorem b_Law_unpack_0_ok (G : zG) (F : Nat) (v0 : Nat) (v1 : Nat) (w : zW) (r : (Int32 × zW)) (h : b_Law_unpack_0 F v0 v1 w = some r) : zV G m_Law_unpack 0 [(0, .ref (z0 G + v0)), (1, .ref (z0 G + v1))] [] w 0 0 (oI r.1) r.2 := by
  unfold b_Law_unpack_0 at h
  refine V_aload_n (i := 1) d_Law_unpack_0 rfl 1 rfl ?_
  refine V_iconst (v := 0) d_Law_unpack_1 (by decide) ?_
  refine V_aload_n (i := 0) d_Law_unpack_2 rfl 0 rfl ?_
  obtain ⟨_, eo3, h⟩ := ob h
  obtain ⟨⟨x3 | qx3, w3⟩, e3, h⟩ := ob h
  · dsimp only at h
    refine V_call (v := some (.int x3)) (st := [.int (0 : Int32), .ref (z0 G + v1)]) (inv_V (N := m_Zip_unpack) (As := []) (ci := 8) d_Law_unpack_3 eo3 rfl k711 k712 k713 kc_Zip_unpack y_Zip_unpack) ⟨Or.inl kc_Zip_unpack, k1, by decide, by decide⟩ (Nat.le_of_ble_eq_true rfl) (by decide) (by decide) (c_Zip_unpack G F v0 w _ e3) ?_
    refine V_i2l d_Law_unpack_6 ?_
    obtain ⟨w7, e7, h⟩ := ob h
    refine V_lset d_Law_unpack_7 e7 ?_
    refine V_goto (tgt := 14) d_Law_unpack_8 (by decide) ?_
    refine V_iconst (v := 0) d_Law_unpack_14 (by decide) ?_
    obtain rfl := Option.some.inj h
    exact V_iret rfl (by decide) (by decide) d_Law_unpack_15
  · dsimp only at h
    by_cases g3_0 : zobj w3 qx3 13 = some []
    · rw [if_pos g3_0] at h
      refine V_callC (ci := 13) (X := R_AE) (pre := []) (q := (0, 8, 11, 34)) (rest := []) (st := [.int (0 : Int32), .ref (z0 G + v1)]) (inv_V (N := m_Zip_unpack) (As := []) (ci := 8) d_Law_unpack_3 eo3 rfl k711 k712 k713 kc_Zip_unpack y_Zip_unpack) ⟨Or.inl kc_Zip_unpack, k1, by decide, by decide⟩ (Nat.le_of_ble_eq_true rfl) (by decide) (by decide) (c_Zip_unpack G F v0 w _ e3) g3_0 rfl rfl (fun x hx => absurd hx List.not_mem_nil) (by decide) k710 k717 ?_
      refine V_astore_n (i := 2) d_Law_unpack_11 rfl (by decide) rfl ?_
      refine V_iconst (v := 1) d_Law_unpack_12 (by decide) ?_
      obtain rfl := Option.some.inj h
      exact V_iret rfl (by decide) (by decide) d_Law_unpack_13
    rw [if_neg g3_0] at h
    cases h
def f_Law_unpack (F : Nat) (v0 : Nat) (v1 : Nat) (w : zW) : Option (Int32 × zW) := b_Law_unpack_0 F v0 v1 w
theorem c_Law_unpack (G : zG) (F : Nat) (v0 : Nat) (v1 : Nat) (w : zW) (r : (Int32 × zW)) (h : f_Law_unpack F v0 v1 w = some r) : zCT G m_Law_unpack [.ref (z0 G + v0), .ref (z0 G + v1)] w (oI r.1) r.2 := zCT.ofV (by decide +kernel) (Or.inr kc_Law_unpack) (Nat.le_of_ble_eq_true rfl) (b_Law_unpack_0_ok G F v0 v1 w r h)

/-! ZipArrayLaw.add(LZipArray;IIZ[J)I -/
def m_Law_add : zM := (⟨R_Law, "add", "(LZipArray;IIZ[J)I"⟩, method_8_code, 6, (some .int), [(0, 12, 15, 40), (0, 12, 19, 13), (0, 12, 23, 15)], { frames := 8, cells := 2, slots := 12, locals := 168 })
theorem k733 : Cond.classLink R_Law 40 R_UOE ∈ zTb := tb_at 733 (by decide +kernel) rfl
theorem k734 : Cond.methodLink R_Law 36 (mY m_Zip_add) ∈ zTb := tb_at 734 (by decide +kernel) rfl
theorem k735 : Cond.instanceMethod (mY m_Zip_add) ∈ zTb := tb_at 735 (by decide +kernel) rfl
theorem k736 : Cond.selects R_Zip (mY m_Zip_add) (mY m_Zip_add) ∈ zTb := tb_at 736 (by decide +kernel) rfl
theorem k744 : Cond.castable R_UOE R_UOE ∈ zTb := tb_at 744 (by decide +kernel) rfl
theorem kc_Law_add : Cond.codeWith (mY m_Law_add) (mC m_Law_add) (mL m_Law_add) (mT m_Law_add) (mH m_Law_add) ∈ zTb := tb_at 732 (by decide +kernel) rfl
theorem y_Law_add : (mY m_Law_add).cls ≠ "java/lang/invoke/MethodHandle" ∧ (mY m_Law_add).cls ≠ "java/lang/invoke/VarHandle" ∧ (parseMethodDescriptor (mY m_Law_add).desc).map (fun d => d.parameters.length) = some 5 := by decide +kernel
theorem d_Law_add_0 : decode (mC m_Law_add) 0 = .ok (.aload 4, 2) := by decide +kernel
theorem d_Law_add_2 : decode (mC m_Law_add) 2 = .ok (.iconst 0, 1) := by decide +kernel
theorem d_Law_add_3 : decode (mC m_Law_add) 3 = .ok (.aload_n 0, 1) := by decide +kernel
theorem d_Law_add_4 : decode (mC m_Law_add) 4 = .ok (.iload_n 1, 1) := by decide +kernel
theorem d_Law_add_5 : decode (mC m_Law_add) 5 = .ok (.iload_n 2, 1) := by decide +kernel
theorem d_Law_add_6 : decode (mC m_Law_add) 6 = .ok (.iload_n 3, 1) := by decide +kernel
theorem d_Law_add_7 : decode (mC m_Law_add) 7 = .ok (.invokevirtual 36, 3) := by decide +kernel
theorem d_Law_add_10 : decode (mC m_Law_add) 10 = .ok (.i2l, 1) := by decide +kernel
theorem d_Law_add_11 : decode (mC m_Law_add) 11 = .ok (.lastore, 1) := by decide +kernel
theorem d_Law_add_12 : decode (mC m_Law_add) 12 = .ok (.goto 15, 3) := by decide +kernel
theorem d_Law_add_15 : decode (mC m_Law_add) 15 = .ok (.astore 5, 2) := by decide +kernel
theorem d_Law_add_17 : decode (mC m_Law_add) 17 = .ok (.iconst 1, 1) := by decide +kernel
theorem d_Law_add_18 : decode (mC m_Law_add) 18 = .ok (.ireturn, 1) := by decide +kernel
theorem d_Law_add_19 : decode (mC m_Law_add) 19 = .ok (.astore 5, 2) := by decide +kernel
theorem d_Law_add_21 : decode (mC m_Law_add) 21 = .ok (.iconst 2, 1) := by decide +kernel
theorem d_Law_add_22 : decode (mC m_Law_add) 22 = .ok (.ireturn, 1) := by decide +kernel
theorem d_Law_add_23 : decode (mC m_Law_add) 23 = .ok (.astore 5, 2) := by decide +kernel
theorem d_Law_add_25 : decode (mC m_Law_add) 25 = .ok (.iconst 3, 1) := by decide +kernel
theorem d_Law_add_26 : decode (mC m_Law_add) 26 = .ok (.ireturn, 1) := by decide +kernel
theorem d_Law_add_27 : decode (mC m_Law_add) 27 = .ok (.iconst 0, 1) := by decide +kernel
theorem d_Law_add_28 : decode (mC m_Law_add) 28 = .ok (.ireturn, 1) := by decide +kernel
def b_Law_add_0 (F : Nat) (v0 : Nat) (v1 : Int32) (v2 : Int32) (v3 : Int32) (v4 : Nat) (w : zW) : Option (Int32 × zW) := (zobj w v0 8).bind fun _ => (f_Zip_add F v0 v1 v2 v3 w).bind fun r => match r with | (.inl x7, w7) => (lset w7 v4 (0 : Int32) x7.toInt64).bind fun w11 => some ((0 : Int32), w11) | (.inr qx7, w7) => if zobj w7 qx7 14 = some [] then (some ((1 : Int32), w7)) else if zobj w7 qx7 10 = some [] then (some ((2 : Int32), w7)) else if zobj w7 qx7 11 = some [] then (some ((3 : Int32), w7)) else none
set_option maxRecDepth 100000 in
set_option maxHeartbeats 4000000 in
theorem b_Law_add_0_ok (G : zG) (F : Nat) (v0 : Nat) (v1 : Int32) (v2 : Int32) (v3 : Int32) (v4 : Nat) (w : zW) (r : (Int32 × zW)) (h : b_Law_add_0 F v0 v1 v2 v3 v4 w = some r) : zV G m_Law_add 0 [(0, .ref (z0 G + v0)), (1, .int v1), (2, .int v2), (3, .int v3), (4, .ref (z0 G + v4))] [] w 0 0 (oI r.1) r.2 := by
  unfold b_Law_add_0 at h
  refine V_aload (i := 4) d_Law_add_0 4 rfl ?_
  refine V_iconst (v := 0) d_Law_add_2 (by decide) ?_
  refine V_aload_n (i := 0) d_Law_add_3 rfl 0 rfl ?_
  refine V_iload_n (i := 1) d_Law_add_4 rfl 1 rfl ?_
  refine V_iload_n (i := 2) d_Law_add_5 rfl 2 rfl ?_
  refine V_iload_n (i := 3) d_Law_add_6 rfl 3 rfl ?_
  obtain ⟨_, eo7, h⟩ := ob h
  obtain ⟨⟨x7 | qx7, w7⟩, e7, h⟩ := ob h
  · dsimp only at h
    refine V_call (v := some (.int x7)) (st := [.int (0 : Int32), .ref (z0 G + v4)]) (inv_V (N := m_Zip_add) (As := [.int v1, .int v2, .int v3]) (ci := 8) d_Law_add_7 eo7 rfl k734 k735 k736 kc_Zip_add y_Zip_add) ⟨Or.inl kc_Zip_add, k1, by decide, by decide⟩ (Nat.le_of_ble_eq_true rfl) (by decide) (by decide) (c_Zip_add G F v0 v1 v2 v3 w _ e7) ?_
    refine V_i2l d_Law_add_10 ?_
    obtain ⟨w11, e11, h⟩ := ob h
    refine V_lset d_Law_add_11 e11 ?_
    refine V_goto (tgt := 27) d_Law_add_12 (by decide) ?_
    refine V_iconst (v := 0) d_Law_add_27 (by decide) ?_
    obtain rfl := Option.some.inj h
    exact V_iret rfl (by decide) (by decide) d_Law_add_28
  · dsimp only at h
    by_cases g7_0 : zobj w7 qx7 14 = some []
    · rw [if_pos g7_0] at h
      refine V_callC (ci := 14) (X := R_UOE) (pre := []) (q := (0, 12, 15, 40)) (rest := [(0, 12, 19, 13), (0, 12, 23, 15)]) (st := [.int (0 : Int32), .ref (z0 G + v4)]) (inv_V (N := m_Zip_add) (As := [.int v1, .int v2, .int v3]) (ci := 8) d_Law_add_7 eo7 rfl k734 k735 k736 kc_Zip_add y_Zip_add) ⟨Or.inl kc_Zip_add, k1, by decide, by decide⟩ (Nat.le_of_ble_eq_true rfl) (by decide) (by decide) (c_Zip_add G F v0 v1 v2 v3 w _ e7) g7_0 rfl rfl (fun x hx => absurd hx List.not_mem_nil) (by decide) k733 k744 ?_
      refine V_astore (i := 5) d_Law_add_15 (by decide) rfl ?_
      refine V_iconst (v := 1) d_Law_add_17 (by decide) ?_
      obtain rfl := Option.some.inj h
      exact V_iret rfl (by decide) (by decide) d_Law_add_18
    rw [if_neg g7_0] at h
    by_cases g7_1 : zobj w7 qx7 10 = some []
    · rw [if_pos g7_1] at h
      refine V_callC (ci := 10) (X := R_IAE) (pre := [(0, 12, 15, 40)]) (q := (0, 12, 19, 13)) (rest := [(0, 12, 23, 15)]) (st := [.int (0 : Int32), .ref (z0 G + v4)]) (inv_V (N := m_Zip_add) (As := [.int v1, .int v2, .int v3]) (ci := 8) d_Law_add_7 eo7 rfl k734 k735 k736 kc_Zip_add y_Zip_add) ⟨Or.inl kc_Zip_add, k1, by decide, by decide⟩ (Nat.le_of_ble_eq_true rfl) (by decide) (by decide) (c_Zip_add G F v0 v1 v2 v3 w _ e7) g7_1 rfl rfl (fun x hx => by simp only [List.mem_cons, List.not_mem_nil, or_false] at hx; subst hx; first | exact ⟨by decide, by decide, R_UOE, k733, by decide +kernel⟩) (by decide) k532 k543 ?_
      refine V_astore (i := 5) d_Law_add_19 (by decide) rfl ?_
      refine V_iconst (v := 2) d_Law_add_21 (by decide) ?_
      obtain rfl := Option.some.inj h
      exact V_iret rfl (by decide) (by decide) d_Law_add_22
    rw [if_neg g7_1] at h
    by_cases g7_2 : zobj w7 qx7 11 = some []
    · rw [if_pos g7_2] at h
      refine V_callC (ci := 11) (X := R_ISE) (pre := [(0, 12, 15, 40), (0, 12, 19, 13)]) (q := (0, 12, 23, 15)) (rest := []) (st := [.int (0 : Int32), .ref (z0 G + v4)]) (inv_V (N := m_Zip_add) (As := [.int v1, .int v2, .int v3]) (ci := 8) d_Law_add_7 eo7 rfl k734 k735 k736 kc_Zip_add y_Zip_add) ⟨Or.inl kc_Zip_add, k1, by decide, by decide⟩ (Nat.le_of_ble_eq_true rfl) (by decide) (by decide) (c_Zip_add G F v0 v1 v2 v3 w _ e7) g7_2 rfl rfl (fun x hx => by simp only [List.mem_cons, List.not_mem_nil, or_false] at hx; rcases hx with rfl | rfl <;> first | exact ⟨by decide, by decide, R_UOE, k733, by decide +kernel⟩ | exact ⟨by decide, by decide, R_IAE, k532, by decide +kernel⟩) (by decide) k533 k610 ?_
      refine V_astore (i := 5) d_Law_add_23 (by decide) rfl ?_
      refine V_iconst (v := 3) d_Law_add_25 (by decide) ?_
      obtain rfl := Option.some.inj h
      exact V_iret rfl (by decide) (by decide) d_Law_add_26
    rw [if_neg g7_2] at h
    cases h
def f_Law_add (F : Nat) (v0 : Nat) (v1 : Int32) (v2 : Int32) (v3 : Int32) (v4 : Nat) (w : zW) : Option (Int32 × zW) := b_Law_add_0 F v0 v1 v2 v3 v4 w
theorem c_Law_add (G : zG) (F : Nat) (v0 : Nat) (v1 : Int32) (v2 : Int32) (v3 : Int32) (v4 : Nat) (w : zW) (r : (Int32 × zW)) (h : f_Law_add F v0 v1 v2 v3 v4 w = some r) : zCT G m_Law_add [.ref (z0 G + v0), .int v1, .int v2, .int v3, .ref (z0 G + v4)] w (oI r.1) r.2 := zCT.ofV (by decide +kernel) (Or.inr kc_Law_add) (Nat.le_of_ble_eq_true rfl) (b_Law_add_0_ok G F v0 v1 v2 v3 v4 w r h)

/-! ZipArrayLaw.remove(LZipArray;I[J)I -/
def m_Law_remove : zM := (⟨R_Law, "remove", "(LZipArray;I[J)I"⟩, method_9_code, 4, (some .int), [(0, 9, 12, 40), (0, 9, 15, 45), (0, 9, 18, 15)], { frames := 8, cells := 2, slots := 12, locals := 165 })
theorem k807 : Cond.classLink R_Law 45 R_NSEE ∈ zTb := tb_at 807 (by decide +kernel) rfl
theorem k808 : Cond.methodLink R_Law 42 (mY m_Zip_remove) ∈ zTb := tb_at 808 (by decide +kernel) rfl
theorem k809 : Cond.instanceMethod (mY m_Zip_remove) ∈ zTb := tb_at 809 (by decide +kernel) rfl
theorem k810 : Cond.selects R_Zip (mY m_Zip_remove) (mY m_Zip_remove) ∈ zTb := tb_at 810 (by decide +kernel) rfl
theorem k814 : Cond.castable R_NSEE R_NSEE ∈ zTb := tb_at 814 (by decide +kernel) rfl
theorem kc_Law_remove : Cond.codeWith (mY m_Law_remove) (mC m_Law_remove) (mL m_Law_remove) (mT m_Law_remove) (mH m_Law_remove) ∈ zTb := tb_at 806 (by decide +kernel) rfl
theorem y_Law_remove : (mY m_Law_remove).cls ≠ "java/lang/invoke/MethodHandle" ∧ (mY m_Law_remove).cls ≠ "java/lang/invoke/VarHandle" ∧ (parseMethodDescriptor (mY m_Law_remove).desc).map (fun d => d.parameters.length) = some 3 := by decide +kernel
theorem d_Law_remove_0 : decode (mC m_Law_remove) 0 = .ok (.aload_n 2, 1) := by decide +kernel
theorem d_Law_remove_1 : decode (mC m_Law_remove) 1 = .ok (.iconst 0, 1) := by decide +kernel
theorem d_Law_remove_2 : decode (mC m_Law_remove) 2 = .ok (.aload_n 0, 1) := by decide +kernel
theorem d_Law_remove_3 : decode (mC m_Law_remove) 3 = .ok (.iload_n 1, 1) := by decide +kernel
theorem d_Law_remove_4 : decode (mC m_Law_remove) 4 = .ok (.invokevirtual 42, 3) := by decide +kernel
theorem d_Law_remove_7 : decode (mC m_Law_remove) 7 = .ok (.i2l, 1) := by decide +kernel
theorem d_Law_remove_8 : decode (mC m_Law_remove) 8 = .ok (.lastore, 1) := by decide +kernel
theorem d_Law_remove_9 : decode (mC m_Law_remove) 9 = .ok (.goto 12, 3) := by decide +kernel
theorem d_Law_remove_12 : decode (mC m_Law_remove) 12 = .ok (.astore_n 3, 1) := by decide +kernel
theorem d_Law_remove_13 : decode (mC m_Law_remove) 13 = .ok (.iconst 1, 1) := by decide +kernel
theorem d_Law_remove_14 : decode (mC m_Law_remove) 14 = .ok (.ireturn, 1) := by decide +kernel
theorem d_Law_remove_15 : decode (mC m_Law_remove) 15 = .ok (.astore_n 3, 1) := by decide +kernel
theorem d_Law_remove_16 : decode (mC m_Law_remove) 16 = .ok (.iconst 2, 1) := by decide +kernel
theorem d_Law_remove_17 : decode (mC m_Law_remove) 17 = .ok (.ireturn, 1) := by decide +kernel
theorem d_Law_remove_18 : decode (mC m_Law_remove) 18 = .ok (.astore_n 3, 1) := by decide +kernel
theorem d_Law_remove_19 : decode (mC m_Law_remove) 19 = .ok (.iconst 3, 1) := by decide +kernel
theorem d_Law_remove_20 : decode (mC m_Law_remove) 20 = .ok (.ireturn, 1) := by decide +kernel
theorem d_Law_remove_21 : decode (mC m_Law_remove) 21 = .ok (.iconst 0, 1) := by decide +kernel
theorem d_Law_remove_22 : decode (mC m_Law_remove) 22 = .ok (.ireturn, 1) := by decide +kernel
def b_Law_remove_0 (F : Nat) (v0 : Nat) (v1 : Int32) (v2 : Nat) (w : zW) : Option (Int32 × zW) := (zobj w v0 8).bind fun _ => (f_Zip_remove F v0 v1 w).bind fun r => match r with | (.inl x4, w4) => (lset w4 v2 (0 : Int32) x4.toInt64).bind fun w8 => some ((0 : Int32), w8) | (.inr qx4, w4) => if zobj w4 qx4 14 = some [] then (some ((1 : Int32), w4)) else if zobj w4 qx4 15 = some [] then (some ((2 : Int32), w4)) else if zobj w4 qx4 11 = some [] then (some ((3 : Int32), w4)) else none
set_option maxRecDepth 100000 in
set_option maxHeartbeats 4000000 in
theorem b_Law_remove_0_ok (G : zG) (F : Nat) (v0 : Nat) (v1 : Int32) (v2 : Nat) (w : zW) (r : (Int32 × zW)) (h : b_Law_remove_0 F v0 v1 v2 w = some r) : zV G m_Law_remove 0 [(0, .ref (z0 G + v0)), (1, .int v1), (2, .ref (z0 G + v2))] [] w 0 0 (oI r.1) r.2 := by
  unfold b_Law_remove_0 at h
  refine V_aload_n (i := 2) d_Law_remove_0 rfl 2 rfl ?_
  refine V_iconst (v := 0) d_Law_remove_1 (by decide) ?_
  refine V_aload_n (i := 0) d_Law_remove_2 rfl 0 rfl ?_
  refine V_iload_n (i := 1) d_Law_remove_3 rfl 1 rfl ?_
  obtain ⟨_, eo4, h⟩ := ob h
  obtain ⟨⟨x4 | qx4, w4⟩, e4, h⟩ := ob h
  · dsimp only at h
    refine V_call (v := some (.int x4)) (st := [.int (0 : Int32), .ref (z0 G + v2)]) (inv_V (N := m_Zip_remove) (As := [.int v1]) (ci := 8) d_Law_remove_4 eo4 rfl k808 k809 k810 kc_Zip_remove y_Zip_remove) ⟨Or.inl kc_Zip_remove, k1, by decide, by decide⟩ (Nat.le_of_ble_eq_true rfl) (by decide) (by decide) (c_Zip_remove G F v0 v1 w _ e4) ?_
    refine V_i2l d_Law_remove_7 ?_
    obtain ⟨w8, e8, h⟩ := ob h
    refine V_lset d_Law_remove_8 e8 ?_
    refine V_goto (tgt := 21) d_Law_remove_9 (by decide) ?_
    refine V_iconst (v := 0) d_Law_remove_21 (by decide) ?_
    obtain rfl := Option.some.inj h
    exact V_iret rfl (by decide) (by decide) d_Law_remove_22
  · dsimp only at h
    by_cases g4_0 : zobj w4 qx4 14 = some []
    · rw [if_pos g4_0] at h
      refine V_callC (ci := 14) (X := R_UOE) (pre := []) (q := (0, 9, 12, 40)) (rest := [(0, 9, 15, 45), (0, 9, 18, 15)]) (st := [.int (0 : Int32), .ref (z0 G + v2)]) (inv_V (N := m_Zip_remove) (As := [.int v1]) (ci := 8) d_Law_remove_4 eo4 rfl k808 k809 k810 kc_Zip_remove y_Zip_remove) ⟨Or.inl kc_Zip_remove, k1, by decide, by decide⟩ (Nat.le_of_ble_eq_true rfl) (by decide) (by decide) (c_Zip_remove G F v0 v1 w _ e4) g4_0 rfl rfl (fun x hx => absurd hx List.not_mem_nil) (by decide) k733 k744 ?_
      refine V_astore_n (i := 3) d_Law_remove_12 rfl (by decide) rfl ?_
      refine V_iconst (v := 1) d_Law_remove_13 (by decide) ?_
      obtain rfl := Option.some.inj h
      exact V_iret rfl (by decide) (by decide) d_Law_remove_14
    rw [if_neg g4_0] at h
    by_cases g4_1 : zobj w4 qx4 15 = some []
    · rw [if_pos g4_1] at h
      refine V_callC (ci := 15) (X := R_NSEE) (pre := [(0, 9, 12, 40)]) (q := (0, 9, 15, 45)) (rest := [(0, 9, 18, 15)]) (st := [.int (0 : Int32), .ref (z0 G + v2)]) (inv_V (N := m_Zip_remove) (As := [.int v1]) (ci := 8) d_Law_remove_4 eo4 rfl k808 k809 k810 kc_Zip_remove y_Zip_remove) ⟨Or.inl kc_Zip_remove, k1, by decide, by decide⟩ (Nat.le_of_ble_eq_true rfl) (by decide) (by decide) (c_Zip_remove G F v0 v1 w _ e4) g4_1 rfl rfl (fun x hx => by simp only [List.mem_cons, List.not_mem_nil, or_false] at hx; subst hx; first | exact ⟨by decide, by decide, R_UOE, k733, by decide +kernel⟩) (by decide) k807 k814 ?_
      refine V_astore_n (i := 3) d_Law_remove_15 rfl (by decide) rfl ?_
      refine V_iconst (v := 2) d_Law_remove_16 (by decide) ?_
      obtain rfl := Option.some.inj h
      exact V_iret rfl (by decide) (by decide) d_Law_remove_17
    rw [if_neg g4_1] at h
    by_cases g4_2 : zobj w4 qx4 11 = some []
    · rw [if_pos g4_2] at h
      refine V_callC (ci := 11) (X := R_ISE) (pre := [(0, 9, 12, 40), (0, 9, 15, 45)]) (q := (0, 9, 18, 15)) (rest := []) (st := [.int (0 : Int32), .ref (z0 G + v2)]) (inv_V (N := m_Zip_remove) (As := [.int v1]) (ci := 8) d_Law_remove_4 eo4 rfl k808 k809 k810 kc_Zip_remove y_Zip_remove) ⟨Or.inl kc_Zip_remove, k1, by decide, by decide⟩ (Nat.le_of_ble_eq_true rfl) (by decide) (by decide) (c_Zip_remove G F v0 v1 w _ e4) g4_2 rfl rfl (fun x hx => by simp only [List.mem_cons, List.not_mem_nil, or_false] at hx; rcases hx with rfl | rfl <;> first | exact ⟨by decide, by decide, R_UOE, k733, by decide +kernel⟩ | exact ⟨by decide, by decide, R_NSEE, k807, by decide +kernel⟩) (by decide) k533 k610 ?_
      refine V_astore_n (i := 3) d_Law_remove_18 rfl (by decide) rfl ?_
      refine V_iconst (v := 3) d_Law_remove_19 (by decide) ?_
      obtain rfl := Option.some.inj h
      exact V_iret rfl (by decide) (by decide) d_Law_remove_20
    rw [if_neg g4_2] at h
    cases h
def f_Law_remove (F : Nat) (v0 : Nat) (v1 : Int32) (v2 : Nat) (w : zW) : Option (Int32 × zW) := b_Law_remove_0 F v0 v1 v2 w
theorem c_Law_remove (G : zG) (F : Nat) (v0 : Nat) (v1 : Int32) (v2 : Nat) (w : zW) (r : (Int32 × zW)) (h : f_Law_remove F v0 v1 v2 w = some r) : zCT G m_Law_remove [.ref (z0 G + v0), .int v1, .ref (z0 G + v2)] w (oI r.1) r.2 := zCT.ofV (by decide +kernel) (Or.inr kc_Law_remove) (Nat.le_of_ble_eq_true rfl) (b_Law_remove_0_ok G F v0 v1 v2 w r h)

/-! ZipArrayLaw.load(LZipArray;I[J)I -/
def m_Law_load : zM := (⟨R_Law, "load", "(LZipArray;I[J)I"⟩, method_10_code, 4, (some .int), [(0, 9, 12, 40), (0, 9, 15, 45), (0, 9, 18, 34)], { frames := 8, cells := 2, slots := 12, locals := 173 })
theorem k830 : Cond.methodLink R_Law 47 (mY m_Zip_load) ∈ zTb := tb_at 830 (by decide +kernel) rfl
theorem k831 : Cond.instanceMethod (mY m_Zip_load) ∈ zTb := tb_at 831 (by decide +kernel) rfl
theorem k832 : Cond.selects R_Zip (mY m_Zip_load) (mY m_Zip_load) ∈ zTb := tb_at 832 (by decide +kernel) rfl
theorem kc_Law_load : Cond.codeWith (mY m_Law_load) (mC m_Law_load) (mL m_Law_load) (mT m_Law_load) (mH m_Law_load) ∈ zTb := tb_at 829 (by decide +kernel) rfl
theorem y_Law_load : (mY m_Law_load).cls ≠ "java/lang/invoke/MethodHandle" ∧ (mY m_Law_load).cls ≠ "java/lang/invoke/VarHandle" ∧ (parseMethodDescriptor (mY m_Law_load).desc).map (fun d => d.parameters.length) = some 3 := by decide +kernel
theorem d_Law_load_0 : decode (mC m_Law_load) 0 = .ok (.aload_n 2, 1) := by decide +kernel
theorem d_Law_load_1 : decode (mC m_Law_load) 1 = .ok (.iconst 0, 1) := by decide +kernel
theorem d_Law_load_2 : decode (mC m_Law_load) 2 = .ok (.aload_n 0, 1) := by decide +kernel
theorem d_Law_load_3 : decode (mC m_Law_load) 3 = .ok (.iload_n 1, 1) := by decide +kernel
theorem d_Law_load_4 : decode (mC m_Law_load) 4 = .ok (.invokevirtual 47, 3) := by decide +kernel
theorem d_Law_load_7 : decode (mC m_Law_load) 7 = .ok (.i2l, 1) := by decide +kernel
theorem d_Law_load_8 : decode (mC m_Law_load) 8 = .ok (.lastore, 1) := by decide +kernel
theorem d_Law_load_9 : decode (mC m_Law_load) 9 = .ok (.goto 12, 3) := by decide +kernel
theorem d_Law_load_12 : decode (mC m_Law_load) 12 = .ok (.astore_n 3, 1) := by decide +kernel
theorem d_Law_load_13 : decode (mC m_Law_load) 13 = .ok (.iconst 1, 1) := by decide +kernel
theorem d_Law_load_14 : decode (mC m_Law_load) 14 = .ok (.ireturn, 1) := by decide +kernel
theorem d_Law_load_15 : decode (mC m_Law_load) 15 = .ok (.astore_n 3, 1) := by decide +kernel
theorem d_Law_load_16 : decode (mC m_Law_load) 16 = .ok (.iconst 2, 1) := by decide +kernel
theorem d_Law_load_17 : decode (mC m_Law_load) 17 = .ok (.ireturn, 1) := by decide +kernel
theorem d_Law_load_18 : decode (mC m_Law_load) 18 = .ok (.astore_n 3, 1) := by decide +kernel
theorem d_Law_load_19 : decode (mC m_Law_load) 19 = .ok (.iconst 3, 1) := by decide +kernel
theorem d_Law_load_20 : decode (mC m_Law_load) 20 = .ok (.ireturn, 1) := by decide +kernel
theorem d_Law_load_21 : decode (mC m_Law_load) 21 = .ok (.iconst 0, 1) := by decide +kernel
theorem d_Law_load_22 : decode (mC m_Law_load) 22 = .ok (.ireturn, 1) := by decide +kernel
def b_Law_load_0 (F : Nat) (v0 : Nat) (v1 : Int32) (v2 : Nat) (w : zW) : Option (Int32 × zW) := (zobj w v0 8).bind fun _ => (f_Zip_load F v0 v1 w).bind fun r => match r with | (.inl x4, w4) => (lset w4 v2 (0 : Int32) x4.toInt64).bind fun w8 => some ((0 : Int32), w8) | (.inr qx4, w4) => if zobj w4 qx4 14 = some [] then (some ((1 : Int32), w4)) else if zobj w4 qx4 15 = some [] then (some ((2 : Int32), w4)) else if zobj w4 qx4 13 = some [] then (some ((3 : Int32), w4)) else none
set_option maxRecDepth 100000 in
set_option maxHeartbeats 4000000 in
theorem b_Law_load_0_ok (G : zG) (F : Nat) (v0 : Nat) (v1 : Int32) (v2 : Nat) (w : zW) (r : (Int32 × zW)) (h : b_Law_load_0 F v0 v1 v2 w = some r) : zV G m_Law_load 0 [(0, .ref (z0 G + v0)), (1, .int v1), (2, .ref (z0 G + v2))] [] w 0 0 (oI r.1) r.2 := by
  unfold b_Law_load_0 at h
  refine V_aload_n (i := 2) d_Law_load_0 rfl 2 rfl ?_
  refine V_iconst (v := 0) d_Law_load_1 (by decide) ?_
  refine V_aload_n (i := 0) d_Law_load_2 rfl 0 rfl ?_
  refine V_iload_n (i := 1) d_Law_load_3 rfl 1 rfl ?_
  obtain ⟨_, eo4, h⟩ := ob h
  obtain ⟨⟨x4 | qx4, w4⟩, e4, h⟩ := ob h
  · dsimp only at h
    refine V_call (v := some (.int x4)) (st := [.int (0 : Int32), .ref (z0 G + v2)]) (inv_V (N := m_Zip_load) (As := [.int v1]) (ci := 8) d_Law_load_4 eo4 rfl k830 k831 k832 kc_Zip_load y_Zip_load) ⟨Or.inl kc_Zip_load, k1, by decide, by decide⟩ (Nat.le_of_ble_eq_true rfl) (by decide) (by decide) (c_Zip_load G F v0 v1 w _ e4) ?_
    refine V_i2l d_Law_load_7 ?_
    obtain ⟨w8, e8, h⟩ := ob h
    refine V_lset d_Law_load_8 e8 ?_
    refine V_goto (tgt := 21) d_Law_load_9 (by decide) ?_
    refine V_iconst (v := 0) d_Law_load_21 (by decide) ?_
    obtain rfl := Option.some.inj h
    exact V_iret rfl (by decide) (by decide) d_Law_load_22
  · dsimp only at h
    by_cases g4_0 : zobj w4 qx4 14 = some []
    · rw [if_pos g4_0] at h
      refine V_callC (ci := 14) (X := R_UOE) (pre := []) (q := (0, 9, 12, 40)) (rest := [(0, 9, 15, 45), (0, 9, 18, 34)]) (st := [.int (0 : Int32), .ref (z0 G + v2)]) (inv_V (N := m_Zip_load) (As := [.int v1]) (ci := 8) d_Law_load_4 eo4 rfl k830 k831 k832 kc_Zip_load y_Zip_load) ⟨Or.inl kc_Zip_load, k1, by decide, by decide⟩ (Nat.le_of_ble_eq_true rfl) (by decide) (by decide) (c_Zip_load G F v0 v1 w _ e4) g4_0 rfl rfl (fun x hx => absurd hx List.not_mem_nil) (by decide) k733 k744 ?_
      refine V_astore_n (i := 3) d_Law_load_12 rfl (by decide) rfl ?_
      refine V_iconst (v := 1) d_Law_load_13 (by decide) ?_
      obtain rfl := Option.some.inj h
      exact V_iret rfl (by decide) (by decide) d_Law_load_14
    rw [if_neg g4_0] at h
    by_cases g4_1 : zobj w4 qx4 15 = some []
    · rw [if_pos g4_1] at h
      refine V_callC (ci := 15) (X := R_NSEE) (pre := [(0, 9, 12, 40)]) (q := (0, 9, 15, 45)) (rest := [(0, 9, 18, 34)]) (st := [.int (0 : Int32), .ref (z0 G + v2)]) (inv_V (N := m_Zip_load) (As := [.int v1]) (ci := 8) d_Law_load_4 eo4 rfl k830 k831 k832 kc_Zip_load y_Zip_load) ⟨Or.inl kc_Zip_load, k1, by decide, by decide⟩ (Nat.le_of_ble_eq_true rfl) (by decide) (by decide) (c_Zip_load G F v0 v1 w _ e4) g4_1 rfl rfl (fun x hx => by simp only [List.mem_cons, List.not_mem_nil, or_false] at hx; subst hx; first | exact ⟨by decide, by decide, R_UOE, k733, by decide +kernel⟩) (by decide) k807 k814 ?_
      refine V_astore_n (i := 3) d_Law_load_15 rfl (by decide) rfl ?_
      refine V_iconst (v := 2) d_Law_load_16 (by decide) ?_
      obtain rfl := Option.some.inj h
      exact V_iret rfl (by decide) (by decide) d_Law_load_17
    rw [if_neg g4_1] at h
    by_cases g4_2 : zobj w4 qx4 13 = some []
    · rw [if_pos g4_2] at h
      refine V_callC (ci := 13) (X := R_AE) (pre := [(0, 9, 12, 40), (0, 9, 15, 45)]) (q := (0, 9, 18, 34)) (rest := []) (st := [.int (0 : Int32), .ref (z0 G + v2)]) (inv_V (N := m_Zip_load) (As := [.int v1]) (ci := 8) d_Law_load_4 eo4 rfl k830 k831 k832 kc_Zip_load y_Zip_load) ⟨Or.inl kc_Zip_load, k1, by decide, by decide⟩ (Nat.le_of_ble_eq_true rfl) (by decide) (by decide) (c_Zip_load G F v0 v1 w _ e4) g4_2 rfl rfl (fun x hx => by simp only [List.mem_cons, List.not_mem_nil, or_false] at hx; rcases hx with rfl | rfl <;> first | exact ⟨by decide, by decide, R_UOE, k733, by decide +kernel⟩ | exact ⟨by decide, by decide, R_NSEE, k807, by decide +kernel⟩) (by decide) k710 k717 ?_
      refine V_astore_n (i := 3) d_Law_load_18 rfl (by decide) rfl ?_
      refine V_iconst (v := 3) d_Law_load_19 (by decide) ?_
      obtain rfl := Option.some.inj h
      exact V_iret rfl (by decide) (by decide) d_Law_load_20
    rw [if_neg g4_2] at h
    cases h
def f_Law_load (F : Nat) (v0 : Nat) (v1 : Int32) (v2 : Nat) (w : zW) : Option (Int32 × zW) := b_Law_load_0 F v0 v1 v2 w
theorem c_Law_load (G : zG) (F : Nat) (v0 : Nat) (v1 : Int32) (v2 : Nat) (w : zW) (r : (Int32 × zW)) (h : f_Law_load F v0 v1 v2 w = some r) : zCT G m_Law_load [.ref (z0 G + v0), .int v1, .ref (z0 G + v2)] w (oI r.1) r.2 := zCT.ofV (by decide +kernel) (Or.inr kc_Law_load) (Nat.le_of_ble_eq_true rfl) (b_Law_load_0_ok G F v0 v1 v2 w r h)

/-! ZipArrayLaw.count(LZipArray;[J)I -/
def m_Law_count : zM := (⟨R_Law, "count", "(LZipArray;[J)I"⟩, method_11_code, 3, (some .int), [(0, 8, 11, 40)], { frames := 8, cells := 1, slots := 6, locals := 162 })
theorem k837 : Cond.methodLink R_Law 50 (mY m_Zip_count) ∈ zTb := tb_at 837 (by decide +kernel) rfl
theorem k838 : Cond.instanceMethod (mY m_Zip_count) ∈ zTb := tb_at 838 (by decide +kernel) rfl
theorem k839 : Cond.selects R_Zip (mY m_Zip_count) (mY m_Zip_count) ∈ zTb := tb_at 839 (by decide +kernel) rfl
theorem kc_Law_count : Cond.codeWith (mY m_Law_count) (mC m_Law_count) (mL m_Law_count) (mT m_Law_count) (mH m_Law_count) ∈ zTb := tb_at 836 (by decide +kernel) rfl
theorem y_Law_count : (mY m_Law_count).cls ≠ "java/lang/invoke/MethodHandle" ∧ (mY m_Law_count).cls ≠ "java/lang/invoke/VarHandle" ∧ (parseMethodDescriptor (mY m_Law_count).desc).map (fun d => d.parameters.length) = some 2 := by decide +kernel
theorem d_Law_count_0 : decode (mC m_Law_count) 0 = .ok (.aload_n 1, 1) := by decide +kernel
theorem d_Law_count_1 : decode (mC m_Law_count) 1 = .ok (.iconst 0, 1) := by decide +kernel
theorem d_Law_count_2 : decode (mC m_Law_count) 2 = .ok (.aload_n 0, 1) := by decide +kernel
theorem d_Law_count_3 : decode (mC m_Law_count) 3 = .ok (.invokevirtual 50, 3) := by decide +kernel
theorem d_Law_count_6 : decode (mC m_Law_count) 6 = .ok (.i2l, 1) := by decide +kernel
theorem d_Law_count_7 : decode (mC m_Law_count) 7 = .ok (.lastore, 1) := by decide +kernel
theorem d_Law_count_8 : decode (mC m_Law_count) 8 = .ok (.goto 6, 3) := by decide +kernel
theorem d_Law_count_11 : decode (mC m_Law_count) 11 = .ok (.astore_n 2, 1) := by decide +kernel
theorem d_Law_count_12 : decode (mC m_Law_count) 12 = .ok (.iconst 1, 1) := by decide +kernel
theorem d_Law_count_13 : decode (mC m_Law_count) 13 = .ok (.ireturn, 1) := by decide +kernel
theorem d_Law_count_14 : decode (mC m_Law_count) 14 = .ok (.iconst 0, 1) := by decide +kernel
theorem d_Law_count_15 : decode (mC m_Law_count) 15 = .ok (.ireturn, 1) := by decide +kernel
def b_Law_count_0 (F : Nat) (v0 : Nat) (v1 : Nat) (w : zW) : Option (Int32 × zW) := (zobj w v0 8).bind fun _ => (f_Zip_count F v0 w).bind fun r => match r with | (.inl x3, w3) => (lset w3 v1 (0 : Int32) x3.toInt64).bind fun w7 => some ((0 : Int32), w7) | (.inr qx3, w3) => if zobj w3 qx3 14 = some [] then (some ((1 : Int32), w3)) else none
set_option maxRecDepth 100000 in
set_option maxHeartbeats 4000000 in
theorem b_Law_count_0_ok (G : zG) (F : Nat) (v0 : Nat) (v1 : Nat) (w : zW) (r : (Int32 × zW)) (h : b_Law_count_0 F v0 v1 w = some r) : zV G m_Law_count 0 [(0, .ref (z0 G + v0)), (1, .ref (z0 G + v1))] [] w 0 0 (oI r.1) r.2 := by
  unfold b_Law_count_0 at h
  refine V_aload_n (i := 1) d_Law_count_0 rfl 1 rfl ?_
  refine V_iconst (v := 0) d_Law_count_1 (by decide) ?_
  refine V_aload_n (i := 0) d_Law_count_2 rfl 0 rfl ?_
  obtain ⟨_, eo3, h⟩ := ob h
  obtain ⟨⟨x3 | qx3, w3⟩, e3, h⟩ := ob h
  · dsimp only at h
    refine V_call (v := some (.int x3)) (st := [.int (0 : Int32), .ref (z0 G + v1)]) (inv_V (N := m_Zip_count) (As := []) (ci := 8) d_Law_count_3 eo3 rfl k837 k838 k839 kc_Zip_count y_Zip_count) ⟨Or.inl kc_Zip_count, k1, by decide, by decide⟩ (Nat.le_of_ble_eq_true rfl) (by decide) (by decide) (c_Zip_count G F v0 w _ e3) ?_
    refine V_i2l d_Law_count_6 ?_
    obtain ⟨w7, e7, h⟩ := ob h
    refine V_lset d_Law_count_7 e7 ?_
    refine V_goto (tgt := 14) d_Law_count_8 (by decide) ?_
    refine V_iconst (v := 0) d_Law_count_14 (by decide) ?_
    obtain rfl := Option.some.inj h
    exact V_iret rfl (by decide) (by decide) d_Law_count_15
  · dsimp only at h
    by_cases g3_0 : zobj w3 qx3 14 = some []
    · rw [if_pos g3_0] at h
      refine V_callC (ci := 14) (X := R_UOE) (pre := []) (q := (0, 8, 11, 40)) (rest := []) (st := [.int (0 : Int32), .ref (z0 G + v1)]) (inv_V (N := m_Zip_count) (As := []) (ci := 8) d_Law_count_3 eo3 rfl k837 k838 k839 kc_Zip_count y_Zip_count) ⟨Or.inl kc_Zip_count, k1, by decide, by decide⟩ (Nat.le_of_ble_eq_true rfl) (by decide) (by decide) (c_Zip_count G F v0 w _ e3) g3_0 rfl rfl (fun x hx => absurd hx List.not_mem_nil) (by decide) k733 k744 ?_
      refine V_astore_n (i := 2) d_Law_count_11 rfl (by decide) rfl ?_
      refine V_iconst (v := 1) d_Law_count_12 (by decide) ?_
      obtain rfl := Option.some.inj h
      exact V_iret rfl (by decide) (by decide) d_Law_count_13
    rw [if_neg g3_0] at h
    cases h
def f_Law_count (F : Nat) (v0 : Nat) (v1 : Nat) (w : zW) : Option (Int32 × zW) := b_Law_count_0 F v0 v1 w
theorem c_Law_count (G : zG) (F : Nat) (v0 : Nat) (v1 : Nat) (w : zW) (r : (Int32 × zW)) (h : f_Law_count F v0 v1 w = some r) : zCT G m_Law_count [.ref (z0 G + v0), .ref (z0 G + v1)] w (oI r.1) r.2 := zCT.ofV (by decide +kernel) (Or.inr kc_Law_count) (Nat.le_of_ble_eq_true rfl) (b_Law_count_0_ok G F v0 v1 w r h)

/-! ZipArrayLaw.about(LZipArray;II[J)I -/
def m_Law_about : zM := (⟨R_Law, "about", "(LZipArray;II[J)I"⟩, method_12_code, 5, (some .int), [(0, 10, 13, 40), (0, 10, 17, 25), (0, 10, 21, 13)], { frames := 8, cells := 2, slots := 12, locals := 165 })
theorem k844 : Cond.methodLink R_Law 53 (mY m_Zip_about) ∈ zTb := tb_at 844 (by decide +kernel) rfl
theorem k845 : Cond.instanceMethod (mY m_Zip_about) ∈ zTb := tb_at 845 (by decide +kernel) rfl
theorem k846 : Cond.selects R_Zip (mY m_Zip_about) (mY m_Zip_about) ∈ zTb := tb_at 846 (by decide +kernel) rfl
theorem kc_Law_about : Cond.codeWith (mY m_Law_about) (mC m_Law_about) (mL m_Law_about) (mT m_Law_about) (mH m_Law_about) ∈ zTb := tb_at 843 (by decide +kernel) rfl
theorem y_Law_about : (mY m_Law_about).cls ≠ "java/lang/invoke/MethodHandle" ∧ (mY m_Law_about).cls ≠ "java/lang/invoke/VarHandle" ∧ (parseMethodDescriptor (mY m_Law_about).desc).map (fun d => d.parameters.length) = some 4 := by decide +kernel
theorem d_Law_about_0 : decode (mC m_Law_about) 0 = .ok (.aload_n 3, 1) := by decide +kernel
theorem d_Law_about_1 : decode (mC m_Law_about) 1 = .ok (.iconst 0, 1) := by decide +kernel
theorem d_Law_about_2 : decode (mC m_Law_about) 2 = .ok (.aload_n 0, 1) := by decide +kernel
theorem d_Law_about_3 : decode (mC m_Law_about) 3 = .ok (.iload_n 1, 1) := by decide +kernel
theorem d_Law_about_4 : decode (mC m_Law_about) 4 = .ok (.iload_n 2, 1) := by decide +kernel
theorem d_Law_about_5 : decode (mC m_Law_about) 5 = .ok (.invokevirtual 53, 3) := by decide +kernel
theorem d_Law_about_8 : decode (mC m_Law_about) 8 = .ok (.i2l, 1) := by decide +kernel
theorem d_Law_about_9 : decode (mC m_Law_about) 9 = .ok (.lastore, 1) := by decide +kernel
theorem d_Law_about_10 : decode (mC m_Law_about) 10 = .ok (.goto 15, 3) := by decide +kernel
theorem d_Law_about_13 : decode (mC m_Law_about) 13 = .ok (.astore 4, 2) := by decide +kernel
theorem d_Law_about_15 : decode (mC m_Law_about) 15 = .ok (.iconst 1, 1) := by decide +kernel
theorem d_Law_about_16 : decode (mC m_Law_about) 16 = .ok (.ireturn, 1) := by decide +kernel
theorem d_Law_about_17 : decode (mC m_Law_about) 17 = .ok (.astore 4, 2) := by decide +kernel
theorem d_Law_about_19 : decode (mC m_Law_about) 19 = .ok (.iconst 2, 1) := by decide +kernel
theorem d_Law_about_20 : decode (mC m_Law_about) 20 = .ok (.ireturn, 1) := by decide +kernel
theorem d_Law_about_21 : decode (mC m_Law_about) 21 = .ok (.astore 4, 2) := by decide +kernel
theorem d_Law_about_23 : decode (mC m_Law_about) 23 = .ok (.iconst 3, 1) := by decide +kernel
theorem d_Law_about_24 : decode (mC m_Law_about) 24 = .ok (.ireturn, 1) := by decide +kernel
theorem d_Law_about_25 : decode (mC m_Law_about) 25 = .ok (.iconst 0, 1) := by decide +kernel
theorem d_Law_about_26 : decode (mC m_Law_about) 26 = .ok (.ireturn, 1) := by decide +kernel
def b_Law_about_0 (F : Nat) (v0 : Nat) (v1 : Int32) (v2 : Int32) (v3 : Nat) (w : zW) : Option (Int32 × zW) := (zobj w v0 8).bind fun _ => (f_Zip_about F v0 v1 v2 w).bind fun r => match r with | (.inl x5, w5) => (lset w5 v3 (0 : Int32) x5.toInt64).bind fun w9 => some ((0 : Int32), w9) | (.inr qx5, w5) => if zobj w5 qx5 14 = some [] then (some ((1 : Int32), w5)) else if zobj w5 qx5 12 = some [] then (some ((2 : Int32), w5)) else if zobj w5 qx5 10 = some [] then (some ((3 : Int32), w5)) else none
set_option maxRecDepth 100000 in
set_option maxHeartbeats 4000000 in
theorem b_Law_about_0_ok (G : zG) (F : Nat) (v0 : Nat) (v1 : Int32) (v2 : Int32) (v3 : Nat) (w : zW) (r : (Int32 × zW)) (h : b_Law_about_0 F v0 v1 v2 v3 w = some r) : zV G m_Law_about 0 [(0, .ref (z0 G + v0)), (1, .int v1), (2, .int v2), (3, .ref (z0 G + v3))] [] w 0 0 (oI r.1) r.2 := by
  unfold b_Law_about_0 at h
  refine V_aload_n (i := 3) d_Law_about_0 rfl 3 rfl ?_
  refine V_iconst (v := 0) d_Law_about_1 (by decide) ?_
  refine V_aload_n (i := 0) d_Law_about_2 rfl 0 rfl ?_
  refine V_iload_n (i := 1) d_Law_about_3 rfl 1 rfl ?_
  refine V_iload_n (i := 2) d_Law_about_4 rfl 2 rfl ?_
  obtain ⟨_, eo5, h⟩ := ob h
  obtain ⟨⟨x5 | qx5, w5⟩, e5, h⟩ := ob h
  · dsimp only at h
    refine V_call (v := some (.int x5)) (st := [.int (0 : Int32), .ref (z0 G + v3)]) (inv_V (N := m_Zip_about) (As := [.int v1, .int v2]) (ci := 8) d_Law_about_5 eo5 rfl k844 k845 k846 kc_Zip_about y_Zip_about) ⟨Or.inl kc_Zip_about, k1, by decide, by decide⟩ (Nat.le_of_ble_eq_true rfl) (by decide) (by decide) (c_Zip_about G F v0 v1 v2 w _ e5) ?_
    refine V_i2l d_Law_about_8 ?_
    obtain ⟨w9, e9, h⟩ := ob h
    refine V_lset d_Law_about_9 e9 ?_
    refine V_goto (tgt := 25) d_Law_about_10 (by decide) ?_
    refine V_iconst (v := 0) d_Law_about_25 (by decide) ?_
    obtain rfl := Option.some.inj h
    exact V_iret rfl (by decide) (by decide) d_Law_about_26
  · dsimp only at h
    by_cases g5_0 : zobj w5 qx5 14 = some []
    · rw [if_pos g5_0] at h
      refine V_callC (ci := 14) (X := R_UOE) (pre := []) (q := (0, 10, 13, 40)) (rest := [(0, 10, 17, 25), (0, 10, 21, 13)]) (st := [.int (0 : Int32), .ref (z0 G + v3)]) (inv_V (N := m_Zip_about) (As := [.int v1, .int v2]) (ci := 8) d_Law_about_5 eo5 rfl k844 k845 k846 kc_Zip_about y_Zip_about) ⟨Or.inl kc_Zip_about, k1, by decide, by decide⟩ (Nat.le_of_ble_eq_true rfl) (by decide) (by decide) (c_Zip_about G F v0 v1 v2 w _ e5) g5_0 rfl rfl (fun x hx => absurd hx List.not_mem_nil) (by decide) k733 k744 ?_
      refine V_astore (i := 4) d_Law_about_13 (by decide) rfl ?_
      refine V_iconst (v := 1) d_Law_about_15 (by decide) ?_
      obtain rfl := Option.some.inj h
      exact V_iret rfl (by decide) (by decide) d_Law_about_16
    rw [if_neg g5_0] at h
    by_cases g5_1 : zobj w5 qx5 12 = some []
    · rw [if_pos g5_1] at h
      refine V_callC (ci := 12) (X := R_IOOBE) (pre := [(0, 10, 13, 40)]) (q := (0, 10, 17, 25)) (rest := [(0, 10, 21, 13)]) (st := [.int (0 : Int32), .ref (z0 G + v3)]) (inv_V (N := m_Zip_about) (As := [.int v1, .int v2]) (ci := 8) d_Law_about_5 eo5 rfl k844 k845 k846 kc_Zip_about y_Zip_about) ⟨Or.inl kc_Zip_about, k1, by decide, by decide⟩ (Nat.le_of_ble_eq_true rfl) (by decide) (by decide) (c_Zip_about G F v0 v1 v2 w _ e5) g5_1 rfl rfl (fun x hx => by simp only [List.mem_cons, List.not_mem_nil, or_false] at hx; subst hx; first | exact ⟨by decide, by decide, R_UOE, k733, by decide +kernel⟩) (by decide) k641 k649 ?_
      refine V_astore (i := 4) d_Law_about_17 (by decide) rfl ?_
      refine V_iconst (v := 2) d_Law_about_19 (by decide) ?_
      obtain rfl := Option.some.inj h
      exact V_iret rfl (by decide) (by decide) d_Law_about_20
    rw [if_neg g5_1] at h
    by_cases g5_2 : zobj w5 qx5 10 = some []
    · rw [if_pos g5_2] at h
      refine V_callC (ci := 10) (X := R_IAE) (pre := [(0, 10, 13, 40), (0, 10, 17, 25)]) (q := (0, 10, 21, 13)) (rest := []) (st := [.int (0 : Int32), .ref (z0 G + v3)]) (inv_V (N := m_Zip_about) (As := [.int v1, .int v2]) (ci := 8) d_Law_about_5 eo5 rfl k844 k845 k846 kc_Zip_about y_Zip_about) ⟨Or.inl kc_Zip_about, k1, by decide, by decide⟩ (Nat.le_of_ble_eq_true rfl) (by decide) (by decide) (c_Zip_about G F v0 v1 v2 w _ e5) g5_2 rfl rfl (fun x hx => by simp only [List.mem_cons, List.not_mem_nil, or_false] at hx; rcases hx with rfl | rfl <;> first | exact ⟨by decide, by decide, R_UOE, k733, by decide +kernel⟩ | exact ⟨by decide, by decide, R_IOOBE, k641, by decide +kernel⟩) (by decide) k532 k543 ?_
      refine V_astore (i := 4) d_Law_about_21 (by decide) rfl ?_
      refine V_iconst (v := 3) d_Law_about_23 (by decide) ?_
      obtain rfl := Option.some.inj h
      exact V_iret rfl (by decide) (by decide) d_Law_about_24
    rw [if_neg g5_2] at h
    cases h
def f_Law_about (F : Nat) (v0 : Nat) (v1 : Int32) (v2 : Int32) (v3 : Nat) (w : zW) : Option (Int32 × zW) := b_Law_about_0 F v0 v1 v2 v3 w
theorem c_Law_about (G : zG) (F : Nat) (v0 : Nat) (v1 : Int32) (v2 : Int32) (v3 : Nat) (w : zW) (r : (Int32 × zW)) (h : f_Law_about F v0 v1 v2 v3 w = some r) : zCT G m_Law_about [.ref (z0 G + v0), .int v1, .int v2, .ref (z0 G + v3)] w (oI r.1) r.2 := zCT.ofV (by decide +kernel) (Or.inr kc_Law_about) (Nat.le_of_ble_eq_true rfl) (b_Law_about_0_ok G F v0 v1 v2 v3 w r h)

/-! ZipArrayLaw.byteAt(LZipArray;I[J)I -/
def m_Law_byteAt : zM := (⟨R_Law, "byteAt", "(LZipArray;I[J)I"⟩, method_13_code, 4, (some .int), [(0, 9, 12, 25)], { frames := 7, cells := 1, slots := 6, locals := 111 })
theorem k851 : Cond.methodLink R_Law 56 (mY m_Zip_byteAt) ∈ zTb := tb_at 851 (by decide +kernel) rfl
theorem k852 : Cond.instanceMethod (mY m_Zip_byteAt) ∈ zTb := tb_at 852 (by decide +kernel) rfl
theorem k853 : Cond.selects R_Zip (mY m_Zip_byteAt) (mY m_Zip_byteAt) ∈ zTb := tb_at 853 (by decide +kernel) rfl
theorem kc_Law_byteAt : Cond.codeWith (mY m_Law_byteAt) (mC m_Law_byteAt) (mL m_Law_byteAt) (mT m_Law_byteAt) (mH m_Law_byteAt) ∈ zTb := tb_at 850 (by decide +kernel) rfl
theorem y_Law_byteAt : (mY m_Law_byteAt).cls ≠ "java/lang/invoke/MethodHandle" ∧ (mY m_Law_byteAt).cls ≠ "java/lang/invoke/VarHandle" ∧ (parseMethodDescriptor (mY m_Law_byteAt).desc).map (fun d => d.parameters.length) = some 3 := by decide +kernel
theorem d_Law_byteAt_0 : decode (mC m_Law_byteAt) 0 = .ok (.aload_n 2, 1) := by decide +kernel
theorem d_Law_byteAt_1 : decode (mC m_Law_byteAt) 1 = .ok (.iconst 0, 1) := by decide +kernel
theorem d_Law_byteAt_2 : decode (mC m_Law_byteAt) 2 = .ok (.aload_n 0, 1) := by decide +kernel
theorem d_Law_byteAt_3 : decode (mC m_Law_byteAt) 3 = .ok (.iload_n 1, 1) := by decide +kernel
theorem d_Law_byteAt_4 : decode (mC m_Law_byteAt) 4 = .ok (.invokevirtual 56, 3) := by decide +kernel
theorem d_Law_byteAt_7 : decode (mC m_Law_byteAt) 7 = .ok (.i2l, 1) := by decide +kernel
theorem d_Law_byteAt_8 : decode (mC m_Law_byteAt) 8 = .ok (.lastore, 1) := by decide +kernel
theorem d_Law_byteAt_9 : decode (mC m_Law_byteAt) 9 = .ok (.goto 6, 3) := by decide +kernel
theorem d_Law_byteAt_12 : decode (mC m_Law_byteAt) 12 = .ok (.astore_n 3, 1) := by decide +kernel
theorem d_Law_byteAt_13 : decode (mC m_Law_byteAt) 13 = .ok (.iconst 1, 1) := by decide +kernel
theorem d_Law_byteAt_14 : decode (mC m_Law_byteAt) 14 = .ok (.ireturn, 1) := by decide +kernel
theorem d_Law_byteAt_15 : decode (mC m_Law_byteAt) 15 = .ok (.iconst 0, 1) := by decide +kernel
theorem d_Law_byteAt_16 : decode (mC m_Law_byteAt) 16 = .ok (.ireturn, 1) := by decide +kernel
def b_Law_byteAt_0 (F : Nat) (v0 : Nat) (v1 : Int32) (v2 : Nat) (w : zW) : Option (Int32 × zW) := (zobj w v0 8).bind fun _ => (f_Zip_byteAt F v0 v1 w).bind fun r => match r with | (.inl x4, w4) => (lset w4 v2 (0 : Int32) x4.toInt64).bind fun w8 => some ((0 : Int32), w8) | (.inr qx4, w4) => if zobj w4 qx4 12 = some [] then (some ((1 : Int32), w4)) else none
set_option maxRecDepth 100000 in
set_option maxHeartbeats 4000000 in
theorem b_Law_byteAt_0_ok (G : zG) (F : Nat) (v0 : Nat) (v1 : Int32) (v2 : Nat) (w : zW) (r : (Int32 × zW)) (h : b_Law_byteAt_0 F v0 v1 v2 w = some r) : zV G m_Law_byteAt 0 [(0, .ref (z0 G + v0)), (1, .int v1), (2, .ref (z0 G + v2))] [] w 0 0 (oI r.1) r.2 := by
  unfold b_Law_byteAt_0 at h
  refine V_aload_n (i := 2) d_Law_byteAt_0 rfl 2 rfl ?_
  refine V_iconst (v := 0) d_Law_byteAt_1 (by decide) ?_
  refine V_aload_n (i := 0) d_Law_byteAt_2 rfl 0 rfl ?_
  refine V_iload_n (i := 1) d_Law_byteAt_3 rfl 1 rfl ?_
  obtain ⟨_, eo4, h⟩ := ob h
  obtain ⟨⟨x4 | qx4, w4⟩, e4, h⟩ := ob h
  · dsimp only at h
    refine V_call (v := some (.int x4)) (st := [.int (0 : Int32), .ref (z0 G + v2)]) (inv_V (N := m_Zip_byteAt) (As := [.int v1]) (ci := 8) d_Law_byteAt_4 eo4 rfl k851 k852 k853 kc_Zip_byteAt y_Zip_byteAt) ⟨Or.inl kc_Zip_byteAt, k1, by decide, by decide⟩ (Nat.le_of_ble_eq_true rfl) (by decide) (by decide) (c_Zip_byteAt G F v0 v1 w _ e4) ?_
    refine V_i2l d_Law_byteAt_7 ?_
    obtain ⟨w8, e8, h⟩ := ob h
    refine V_lset d_Law_byteAt_8 e8 ?_
    refine V_goto (tgt := 15) d_Law_byteAt_9 (by decide) ?_
    refine V_iconst (v := 0) d_Law_byteAt_15 (by decide) ?_
    obtain rfl := Option.some.inj h
    exact V_iret rfl (by decide) (by decide) d_Law_byteAt_16
  · dsimp only at h
    by_cases g4_0 : zobj w4 qx4 12 = some []
    · rw [if_pos g4_0] at h
      refine V_callC (ci := 12) (X := R_IOOBE) (pre := []) (q := (0, 9, 12, 25)) (rest := []) (st := [.int (0 : Int32), .ref (z0 G + v2)]) (inv_V (N := m_Zip_byteAt) (As := [.int v1]) (ci := 8) d_Law_byteAt_4 eo4 rfl k851 k852 k853 kc_Zip_byteAt y_Zip_byteAt) ⟨Or.inl kc_Zip_byteAt, k1, by decide, by decide⟩ (Nat.le_of_ble_eq_true rfl) (by decide) (by decide) (c_Zip_byteAt G F v0 v1 w _ e4) g4_0 rfl rfl (fun x hx => absurd hx List.not_mem_nil) (by decide) k641 k649 ?_
      refine V_astore_n (i := 3) d_Law_byteAt_12 rfl (by decide) rfl ?_
      refine V_iconst (v := 1) d_Law_byteAt_13 (by decide) ?_
      obtain rfl := Option.some.inj h
      exact V_iret rfl (by decide) (by decide) d_Law_byteAt_14
    rw [if_neg g4_0] at h
    cases h
def f_Law_byteAt (F : Nat) (v0 : Nat) (v1 : Int32) (v2 : Nat) (w : zW) : Option (Int32 × zW) := b_Law_byteAt_0 F v0 v1 v2 w
theorem c_Law_byteAt (G : zG) (F : Nat) (v0 : Nat) (v1 : Int32) (v2 : Nat) (w : zW) (r : (Int32 × zW)) (h : f_Law_byteAt F v0 v1 v2 w = some r) : zCT G m_Law_byteAt [.ref (z0 G + v0), .int v1, .ref (z0 G + v2)] w (oI r.1) r.2 := zCT.ofV (by decide +kernel) (Or.inr kc_Law_byteAt) (Nat.le_of_ble_eq_true rfl) (b_Law_byteAt_0_ok G F v0 v1 v2 w r h)

/-! ZipArrayLaw.poke(LZipArray;II)I -/
def m_Law_poke : zM := (⟨R_Law, "poke", "(LZipArray;II)I"⟩, method_14_code, 4, (some .int), [(0, 6, 9, 25), (0, 6, 12, 13)], { frames := 7, cells := 1, slots := 6, locals := 112 })
theorem k858 : Cond.methodLink R_Law 59 (mY m_Zip_poke) ∈ zTb := tb_at 858 (by decide +kernel) rfl
theorem k859 : Cond.instanceMethod (mY m_Zip_poke) ∈ zTb := tb_at 859 (by decide +kernel) rfl
theorem k860 : Cond.selects R_Zip (mY m_Zip_poke) (mY m_Zip_poke) ∈ zTb := tb_at 860 (by decide +kernel) rfl
theorem kc_Law_poke : Cond.codeWith (mY m_Law_poke) (mC m_Law_poke) (mL m_Law_poke) (mT m_Law_poke) (mH m_Law_poke) ∈ zTb := tb_at 857 (by decide +kernel) rfl
theorem y_Law_poke : (mY m_Law_poke).cls ≠ "java/lang/invoke/MethodHandle" ∧ (mY m_Law_poke).cls ≠ "java/lang/invoke/VarHandle" ∧ (parseMethodDescriptor (mY m_Law_poke).desc).map (fun d => d.parameters.length) = some 3 := by decide +kernel
theorem d_Law_poke_0 : decode (mC m_Law_poke) 0 = .ok (.aload_n 0, 1) := by decide +kernel
theorem d_Law_poke_1 : decode (mC m_Law_poke) 1 = .ok (.iload_n 1, 1) := by decide +kernel
theorem d_Law_poke_2 : decode (mC m_Law_poke) 2 = .ok (.iload_n 2, 1) := by decide +kernel
theorem d_Law_poke_3 : decode (mC m_Law_poke) 3 = .ok (.invokevirtual 59, 3) := by decide +kernel
theorem d_Law_poke_6 : decode (mC m_Law_poke) 6 = .ok (.goto 9, 3) := by decide +kernel
theorem d_Law_poke_9 : decode (mC m_Law_poke) 9 = .ok (.astore_n 3, 1) := by decide +kernel
theorem d_Law_poke_10 : decode (mC m_Law_poke) 10 = .ok (.iconst 1, 1) := by decide +kernel
theorem d_Law_poke_11 : decode (mC m_Law_poke) 11 = .ok (.ireturn, 1) := by decide +kernel
theorem d_Law_poke_12 : decode (mC m_Law_poke) 12 = .ok (.astore_n 3, 1) := by decide +kernel
theorem d_Law_poke_13 : decode (mC m_Law_poke) 13 = .ok (.iconst 2, 1) := by decide +kernel
theorem d_Law_poke_14 : decode (mC m_Law_poke) 14 = .ok (.ireturn, 1) := by decide +kernel
theorem d_Law_poke_15 : decode (mC m_Law_poke) 15 = .ok (.iconst 0, 1) := by decide +kernel
theorem d_Law_poke_16 : decode (mC m_Law_poke) 16 = .ok (.ireturn, 1) := by decide +kernel
def b_Law_poke_0 (F : Nat) (v0 : Nat) (v1 : Int32) (v2 : Int32) (w : zW) : Option (Int32 × zW) := (zobj w v0 8).bind fun _ => (f_Zip_poke F v0 v1 v2 w).bind fun r => match r with | (.inl _, w3) => some ((0 : Int32), w3) | (.inr qx3, w3) => if zobj w3 qx3 12 = some [] then (some ((1 : Int32), w3)) else if zobj w3 qx3 10 = some [] then (some ((2 : Int32), w3)) else none
set_option maxRecDepth 100000 in
set_option maxHeartbeats 4000000 in
theorem b_Law_poke_0_ok (G : zG) (F : Nat) (v0 : Nat) (v1 : Int32) (v2 : Int32) (w : zW) (r : (Int32 × zW)) (h : b_Law_poke_0 F v0 v1 v2 w = some r) : zV G m_Law_poke 0 [(0, .ref (z0 G + v0)), (1, .int v1), (2, .int v2)] [] w 0 0 (oI r.1) r.2 := by
  unfold b_Law_poke_0 at h
  refine V_aload_n (i := 0) d_Law_poke_0 rfl 0 rfl ?_
  refine V_iload_n (i := 1) d_Law_poke_1 rfl 1 rfl ?_
  refine V_iload_n (i := 2) d_Law_poke_2 rfl 2 rfl ?_
  obtain ⟨_, eo3, h⟩ := ob h
  obtain ⟨⟨x3 | qx3, w3⟩, e3, h⟩ := ob h
  · dsimp only at h
    refine V_call (v := none) (st := []) (inv_V (N := m_Zip_poke) (As := [.int v1, .int v2]) (ci := 8) d_Law_poke_3 eo3 rfl k858 k859 k860 kc_Zip_poke y_Zip_poke) ⟨Or.inl kc_Zip_poke, k1, by decide, by decide⟩ (Nat.le_of_ble_eq_true rfl) (by decide) (by decide) (c_Zip_poke G F v0 v1 v2 w _ e3) ?_
    refine V_goto (tgt := 15) d_Law_poke_6 (by decide) ?_
    refine V_iconst (v := 0) d_Law_poke_15 (by decide) ?_
    obtain rfl := Option.some.inj h
    exact V_iret rfl (by decide) (by decide) d_Law_poke_16
  · dsimp only at h
    by_cases g3_0 : zobj w3 qx3 12 = some []
    · rw [if_pos g3_0] at h
      refine V_callC (ci := 12) (X := R_IOOBE) (pre := []) (q := (0, 6, 9, 25)) (rest := [(0, 6, 12, 13)]) (st := []) (inv_V (N := m_Zip_poke) (As := [.int v1, .int v2]) (ci := 8) d_Law_poke_3 eo3 rfl k858 k859 k860 kc_Zip_poke y_Zip_poke) ⟨Or.inl kc_Zip_poke, k1, by decide, by decide⟩ (Nat.le_of_ble_eq_true rfl) (by decide) (by decide) (c_Zip_poke G F v0 v1 v2 w _ e3) g3_0 rfl rfl (fun x hx => absurd hx List.not_mem_nil) (by decide) k641 k649 ?_
      refine V_astore_n (i := 3) d_Law_poke_9 rfl (by decide) rfl ?_
      refine V_iconst (v := 1) d_Law_poke_10 (by decide) ?_
      obtain rfl := Option.some.inj h
      exact V_iret rfl (by decide) (by decide) d_Law_poke_11
    rw [if_neg g3_0] at h
    by_cases g3_1 : zobj w3 qx3 10 = some []
    · rw [if_pos g3_1] at h
      refine V_callC (ci := 10) (X := R_IAE) (pre := [(0, 6, 9, 25)]) (q := (0, 6, 12, 13)) (rest := []) (st := []) (inv_V (N := m_Zip_poke) (As := [.int v1, .int v2]) (ci := 8) d_Law_poke_3 eo3 rfl k858 k859 k860 kc_Zip_poke y_Zip_poke) ⟨Or.inl kc_Zip_poke, k1, by decide, by decide⟩ (Nat.le_of_ble_eq_true rfl) (by decide) (by decide) (c_Zip_poke G F v0 v1 v2 w _ e3) g3_1 rfl rfl (fun x hx => by simp only [List.mem_cons, List.not_mem_nil, or_false] at hx; subst hx; first | exact ⟨by decide, by decide, R_IOOBE, k641, by decide +kernel⟩) (by decide) k532 k543 ?_
      refine V_astore_n (i := 3) d_Law_poke_12 rfl (by decide) rfl ?_
      refine V_iconst (v := 2) d_Law_poke_13 (by decide) ?_
      obtain rfl := Option.some.inj h
      exact V_iret rfl (by decide) (by decide) d_Law_poke_14
    rw [if_neg g3_1] at h
    cases h
def f_Law_poke (F : Nat) (v0 : Nat) (v1 : Int32) (v2 : Int32) (w : zW) : Option (Int32 × zW) := b_Law_poke_0 F v0 v1 v2 w
theorem c_Law_poke (G : zG) (F : Nat) (v0 : Nat) (v1 : Int32) (v2 : Int32) (w : zW) (r : (Int32 × zW)) (h : f_Law_poke F v0 v1 v2 w = some r) : zCT G m_Law_poke [.ref (z0 G + v0), .int v1, .int v2] w (oI r.1) r.2 := zCT.ofV (by decide +kernel) (Or.inr kc_Law_poke) (Nat.le_of_ble_eq_true rfl) (b_Law_poke_0_ok G F v0 v1 v2 w r h)

/-! ZipArrayLaw.put(LZipArray;JI[J)I -/
def m_Law_put : zM := (⟨R_Law, "put", "(LZipArray;JI[J)I"⟩, method_15_code, 6, (some .int), [(0, 11, 14, 13), (0, 11, 18, 15)], { frames := 8, cells := 1, slots := 6, locals := 136 })
theorem k865 : Cond.methodLink R_Law 63 (mY m_Zip_put) ∈ zTb := tb_at 865 (by decide +kernel) rfl
theorem k866 : Cond.instanceMethod (mY m_Zip_put) ∈ zTb := tb_at 866 (by decide +kernel) rfl
theorem k867 : Cond.selects R_Zip (mY m_Zip_put) (mY m_Zip_put) ∈ zTb := tb_at 867 (by decide +kernel) rfl
theorem kc_Law_put : Cond.codeWith (mY m_Law_put) (mC m_Law_put) (mL m_Law_put) (mT m_Law_put) (mH m_Law_put) ∈ zTb := tb_at 864 (by decide +kernel) rfl
theorem y_Law_put : (mY m_Law_put).cls ≠ "java/lang/invoke/MethodHandle" ∧ (mY m_Law_put).cls ≠ "java/lang/invoke/VarHandle" ∧ (parseMethodDescriptor (mY m_Law_put).desc).map (fun d => d.parameters.length) = some 4 := by decide +kernel
theorem d_Law_put_0 : decode (mC m_Law_put) 0 = .ok (.aload 4, 2) := by decide +kernel
theorem d_Law_put_2 : decode (mC m_Law_put) 2 = .ok (.iconst 0, 1) := by decide +kernel
theorem d_Law_put_3 : decode (mC m_Law_put) 3 = .ok (.aload_n 0, 1) := by decide +kernel
theorem d_Law_put_4 : decode (mC m_Law_put) 4 = .ok (.lload_n 1, 1) := by decide +kernel
theorem d_Law_put_5 : decode (mC m_Law_put) 5 = .ok (.iload_n 3, 1) := by decide +kernel
theorem d_Law_put_6 : decode (mC m_Law_put) 6 = .ok (.invokevirtual 63, 3) := by decide +kernel
theorem d_Law_put_9 : decode (mC m_Law_put) 9 = .ok (.i2l, 1) := by decide +kernel
theorem d_Law_put_10 : decode (mC m_Law_put) 10 = .ok (.lastore, 1) := by decide +kernel
theorem d_Law_put_11 : decode (mC m_Law_put) 11 = .ok (.goto 11, 3) := by decide +kernel
theorem d_Law_put_14 : decode (mC m_Law_put) 14 = .ok (.astore 5, 2) := by decide +kernel
theorem d_Law_put_16 : decode (mC m_Law_put) 16 = .ok (.iconst 1, 1) := by decide +kernel
theorem d_Law_put_17 : decode (mC m_Law_put) 17 = .ok (.ireturn, 1) := by decide +kernel
theorem d_Law_put_18 : decode (mC m_Law_put) 18 = .ok (.astore 5, 2) := by decide +kernel
theorem d_Law_put_20 : decode (mC m_Law_put) 20 = .ok (.iconst 2, 1) := by decide +kernel
theorem d_Law_put_21 : decode (mC m_Law_put) 21 = .ok (.ireturn, 1) := by decide +kernel
theorem d_Law_put_22 : decode (mC m_Law_put) 22 = .ok (.iconst 0, 1) := by decide +kernel
theorem d_Law_put_23 : decode (mC m_Law_put) 23 = .ok (.ireturn, 1) := by decide +kernel
def b_Law_put_0 (F : Nat) (v0 : Nat) (v1 : Int64) (v3 : Int32) (v4 : Nat) (w : zW) : Option (Int32 × zW) := (zobj w v0 8).bind fun _ => (f_Zip_put F v0 v1 v3 w).bind fun r => match r with | (.inl x6, w6) => (lset w6 v4 (0 : Int32) x6.toInt64).bind fun w10 => some ((0 : Int32), w10) | (.inr qx6, w6) => if zobj w6 qx6 10 = some [] then (some ((1 : Int32), w6)) else if zobj w6 qx6 11 = some [] then (some ((2 : Int32), w6)) else none
set_option maxRecDepth 100000 in
set_option maxHeartbeats 4000000 in
theorem b_Law_put_0_ok (G : zG) (F : Nat) (v0 : Nat) (v1 : Int64) (v3 : Int32) (v4 : Nat) (w : zW) (r : (Int32 × zW)) (h : b_Law_put_0 F v0 v1 v3 v4 w = some r) : zV G m_Law_put 0 [(0, .ref (z0 G + v0)), (1, .long v1), (3, .int v3), (4, .ref (z0 G + v4))] [] w 0 0 (oI r.1) r.2 := by
  unfold b_Law_put_0 at h
  refine V_aload (i := 4) d_Law_put_0 3 rfl ?_
  refine V_iconst (v := 0) d_Law_put_2 (by decide) ?_
  refine V_aload_n (i := 0) d_Law_put_3 rfl 0 rfl ?_
  refine V_lload_n (i := 1) d_Law_put_4 rfl 1 rfl ?_
  refine V_iload_n (i := 3) d_Law_put_5 rfl 2 rfl ?_
  obtain ⟨_, eo6, h⟩ := ob h
  obtain ⟨⟨x6 | qx6, w6⟩, e6, h⟩ := ob h
  · dsimp only at h
    refine V_call (v := some (.int x6)) (st := [.int (0 : Int32), .ref (z0 G + v4)]) (inv_V (N := m_Zip_put) (As := [.long v1, .int v3]) (ci := 8) d_Law_put_6 eo6 rfl k865 k866 k867 kc_Zip_put y_Zip_put) ⟨Or.inl kc_Zip_put, k1, by decide, by decide⟩ (Nat.le_of_ble_eq_true rfl) (by decide) (by decide) (c_Zip_put G F v0 v1 v3 w _ e6) ?_
    refine V_i2l d_Law_put_9 ?_
    obtain ⟨w10, e10, h⟩ := ob h
    refine V_lset d_Law_put_10 e10 ?_
    refine V_goto (tgt := 22) d_Law_put_11 (by decide) ?_
    refine V_iconst (v := 0) d_Law_put_22 (by decide) ?_
    obtain rfl := Option.some.inj h
    exact V_iret rfl (by decide) (by decide) d_Law_put_23
  · dsimp only at h
    by_cases g6_0 : zobj w6 qx6 10 = some []
    · rw [if_pos g6_0] at h
      refine V_callC (ci := 10) (X := R_IAE) (pre := []) (q := (0, 11, 14, 13)) (rest := [(0, 11, 18, 15)]) (st := [.int (0 : Int32), .ref (z0 G + v4)]) (inv_V (N := m_Zip_put) (As := [.long v1, .int v3]) (ci := 8) d_Law_put_6 eo6 rfl k865 k866 k867 kc_Zip_put y_Zip_put) ⟨Or.inl kc_Zip_put, k1, by decide, by decide⟩ (Nat.le_of_ble_eq_true rfl) (by decide) (by decide) (c_Zip_put G F v0 v1 v3 w _ e6) g6_0 rfl rfl (fun x hx => absurd hx List.not_mem_nil) (by decide) k532 k543 ?_
      refine V_astore (i := 5) d_Law_put_14 (by decide) rfl ?_
      refine V_iconst (v := 1) d_Law_put_16 (by decide) ?_
      obtain rfl := Option.some.inj h
      exact V_iret rfl (by decide) (by decide) d_Law_put_17
    rw [if_neg g6_0] at h
    by_cases g6_1 : zobj w6 qx6 11 = some []
    · rw [if_pos g6_1] at h
      refine V_callC (ci := 11) (X := R_ISE) (pre := [(0, 11, 14, 13)]) (q := (0, 11, 18, 15)) (rest := []) (st := [.int (0 : Int32), .ref (z0 G + v4)]) (inv_V (N := m_Zip_put) (As := [.long v1, .int v3]) (ci := 8) d_Law_put_6 eo6 rfl k865 k866 k867 kc_Zip_put y_Zip_put) ⟨Or.inl kc_Zip_put, k1, by decide, by decide⟩ (Nat.le_of_ble_eq_true rfl) (by decide) (by decide) (c_Zip_put G F v0 v1 v3 w _ e6) g6_1 rfl rfl (fun x hx => by simp only [List.mem_cons, List.not_mem_nil, or_false] at hx; subst hx; first | exact ⟨by decide, by decide, R_IAE, k532, by decide +kernel⟩) (by decide) k533 k610 ?_
      refine V_astore (i := 5) d_Law_put_18 (by decide) rfl ?_
      refine V_iconst (v := 2) d_Law_put_20 (by decide) ?_
      obtain rfl := Option.some.inj h
      exact V_iret rfl (by decide) (by decide) d_Law_put_21
    rw [if_neg g6_1] at h
    cases h
def f_Law_put (F : Nat) (v0 : Nat) (v1 : Int64) (v3 : Int32) (v4 : Nat) (w : zW) : Option (Int32 × zW) := b_Law_put_0 F v0 v1 v3 v4 w
theorem c_Law_put (G : zG) (F : Nat) (v0 : Nat) (v1 : Int64) (v3 : Int32) (v4 : Nat) (w : zW) (r : (Int32 × zW)) (h : f_Law_put F v0 v1 v3 v4 w = some r) : zCT G m_Law_put [.ref (z0 G + v0), .long v1, .int v3, .ref (z0 G + v4)] w (oI r.1) r.2 := zCT.ofV (by decide +kernel) (Or.inr kc_Law_put) (Nat.le_of_ble_eq_true rfl) (b_Law_put_0_ok G F v0 v1 v3 v4 w r h)

/-! ZipArrayLaw.cut(LZipArray;I)I -/
def m_Law_cut : zM := (⟨R_Law, "cut", "(LZipArray;I)I"⟩, method_16_code, 3, (some .int), [(0, 5, 8, 13)], { frames := 7, cells := 1, slots := 6, locals := 111 })
theorem k872 : Cond.methodLink R_Law 66 (mY m_Zip_cut) ∈ zTb := tb_at 872 (by decide +kernel) rfl
theorem k873 : Cond.instanceMethod (mY m_Zip_cut) ∈ zTb := tb_at 873 (by decide +kernel) rfl
theorem k874 : Cond.selects R_Zip (mY m_Zip_cut) (mY m_Zip_cut) ∈ zTb := tb_at 874 (by decide +kernel) rfl
theorem kc_Law_cut : Cond.codeWith (mY m_Law_cut) (mC m_Law_cut) (mL m_Law_cut) (mT m_Law_cut) (mH m_Law_cut) ∈ zTb := tb_at 871 (by decide +kernel) rfl
theorem y_Law_cut : (mY m_Law_cut).cls ≠ "java/lang/invoke/MethodHandle" ∧ (mY m_Law_cut).cls ≠ "java/lang/invoke/VarHandle" ∧ (parseMethodDescriptor (mY m_Law_cut).desc).map (fun d => d.parameters.length) = some 2 := by decide +kernel
theorem d_Law_cut_0 : decode (mC m_Law_cut) 0 = .ok (.aload_n 0, 1) := by decide +kernel
theorem d_Law_cut_1 : decode (mC m_Law_cut) 1 = .ok (.iload_n 1, 1) := by decide +kernel
theorem d_Law_cut_2 : decode (mC m_Law_cut) 2 = .ok (.invokevirtual 66, 3) := by decide +kernel
theorem d_Law_cut_5 : decode (mC m_Law_cut) 5 = .ok (.goto 6, 3) := by decide +kernel
theorem d_Law_cut_8 : decode (mC m_Law_cut) 8 = .ok (.astore_n 2, 1) := by decide +kernel
theorem d_Law_cut_9 : decode (mC m_Law_cut) 9 = .ok (.iconst 1, 1) := by decide +kernel
theorem d_Law_cut_10 : decode (mC m_Law_cut) 10 = .ok (.ireturn, 1) := by decide +kernel
theorem d_Law_cut_11 : decode (mC m_Law_cut) 11 = .ok (.iconst 0, 1) := by decide +kernel
theorem d_Law_cut_12 : decode (mC m_Law_cut) 12 = .ok (.ireturn, 1) := by decide +kernel
def b_Law_cut_0 (F : Nat) (v0 : Nat) (v1 : Int32) (w : zW) : Option (Int32 × zW) := (zobj w v0 8).bind fun _ => (f_Zip_cut F v0 v1 w).bind fun r => match r with | (.inl _, w2) => some ((0 : Int32), w2) | (.inr qx2, w2) => if zobj w2 qx2 10 = some [] then (some ((1 : Int32), w2)) else none
set_option maxRecDepth 100000 in
set_option maxHeartbeats 4000000 in
theorem b_Law_cut_0_ok (G : zG) (F : Nat) (v0 : Nat) (v1 : Int32) (w : zW) (r : (Int32 × zW)) (h : b_Law_cut_0 F v0 v1 w = some r) : zV G m_Law_cut 0 [(0, .ref (z0 G + v0)), (1, .int v1)] [] w 0 0 (oI r.1) r.2 := by
  unfold b_Law_cut_0 at h
  refine V_aload_n (i := 0) d_Law_cut_0 rfl 0 rfl ?_
  refine V_iload_n (i := 1) d_Law_cut_1 rfl 1 rfl ?_
  obtain ⟨_, eo2, h⟩ := ob h
  obtain ⟨⟨x2 | qx2, w2⟩, e2, h⟩ := ob h
  · dsimp only at h
    refine V_call (v := none) (st := []) (inv_V (N := m_Zip_cut) (As := [.int v1]) (ci := 8) d_Law_cut_2 eo2 rfl k872 k873 k874 kc_Zip_cut y_Zip_cut) ⟨Or.inl kc_Zip_cut, k1, by decide, by decide⟩ (Nat.le_of_ble_eq_true rfl) (by decide) (by decide) (c_Zip_cut G F v0 v1 w _ e2) ?_
    refine V_goto (tgt := 11) d_Law_cut_5 (by decide) ?_
    refine V_iconst (v := 0) d_Law_cut_11 (by decide) ?_
    obtain rfl := Option.some.inj h
    exact V_iret rfl (by decide) (by decide) d_Law_cut_12
  · dsimp only at h
    by_cases g2_0 : zobj w2 qx2 10 = some []
    · rw [if_pos g2_0] at h
      refine V_callC (ci := 10) (X := R_IAE) (pre := []) (q := (0, 5, 8, 13)) (rest := []) (st := []) (inv_V (N := m_Zip_cut) (As := [.int v1]) (ci := 8) d_Law_cut_2 eo2 rfl k872 k873 k874 kc_Zip_cut y_Zip_cut) ⟨Or.inl kc_Zip_cut, k1, by decide, by decide⟩ (Nat.le_of_ble_eq_true rfl) (by decide) (by decide) (c_Zip_cut G F v0 v1 w _ e2) g2_0 rfl rfl (fun x hx => absurd hx List.not_mem_nil) (by decide) k532 k543 ?_
      refine V_astore_n (i := 2) d_Law_cut_8 rfl (by decide) rfl ?_
      refine V_iconst (v := 1) d_Law_cut_9 (by decide) ?_
      obtain rfl := Option.some.inj h
      exact V_iret rfl (by decide) (by decide) d_Law_cut_10
    rw [if_neg g2_0] at h
    cases h
def f_Law_cut (F : Nat) (v0 : Nat) (v1 : Int32) (w : zW) : Option (Int32 × zW) := b_Law_cut_0 F v0 v1 w
theorem c_Law_cut (G : zG) (F : Nat) (v0 : Nat) (v1 : Int32) (w : zW) (r : (Int32 × zW)) (h : f_Law_cut F v0 v1 w = some r) : zCT G m_Law_cut [.ref (z0 G + v0), .int v1] w (oI r.1) r.2 := zCT.ofV (by decide +kernel) (Or.inr kc_Law_cut) (Nat.le_of_ble_eq_true rfl) (b_Law_cut_0_ok G F v0 v1 w r h)
