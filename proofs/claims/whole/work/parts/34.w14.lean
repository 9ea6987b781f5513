/-! ZipArrayModel.putRecord(I)V -/
def m_Model_putRecord : zM := (⟨R_Model, "putRecord", "(I)V"⟩, prog_11_method_72_code, 2, none, [], { frames := 1, cells := 0, slots := 0, locals := 24 })
theorem kc_Model_putRecord : Cond.code (mY m_Model_putRecord) (mC m_Model_putRecord) (mL m_Model_putRecord) (mT m_Model_putRecord) ∈ zTb := tb_at 1294 (by decide +kernel) rfl
theorem y_Model_putRecord : (mY m_Model_putRecord).cls ≠ "java/lang/invoke/MethodHandle" ∧ (mY m_Model_putRecord).cls ≠ "java/lang/invoke/VarHandle" ∧ (parseMethodDescriptor (mY m_Model_putRecord).desc).map (fun d => d.parameters.length) = some 1 := by decide +kernel
theorem sel_Model_putRecord : Cond.selects R_Model (mY m_Model_putRecord) (mY m_Model_putRecord) ∈ zTb := sel_at (y := mY m_Model_putRecord) (n := 33) 87 (by decide +kernel)
theorem d_Model_putRecord_0 : decode (mC m_Model_putRecord) 0 = .ok (.aload_n 0, 1) := by decide +kernel
theorem d_Model_putRecord_1 : decode (mC m_Model_putRecord) 1 = .ok (.lconst 1, 1) := by decide +kernel
theorem d_Model_putRecord_2 : decode (mC m_Model_putRecord) 2 = .ok (.iconst 2, 1) := by decide +kernel
theorem d_Model_putRecord_3 : decode (mC m_Model_putRecord) 3 = .ok (.invokevirtual 295, 3) := by decide +kernel
theorem d_Model_putRecord_6 : decode (mC m_Model_putRecord) 6 = .ok (.aload_n 0, 1) := by decide +kernel
theorem d_Model_putRecord_7 : decode (mC m_Model_putRecord) 7 = .ok (.iload_n 1, 1) := by decide +kernel
theorem d_Model_putRecord_8 : decode (mC m_Model_putRecord) 8 = .ok (.i2l, 1) := by decide +kernel
theorem d_Model_putRecord_9 : decode (mC m_Model_putRecord) 9 = .ok (.iconst 2, 1) := by decide +kernel
theorem d_Model_putRecord_10 : decode (mC m_Model_putRecord) 10 = .ok (.invokevirtual 295, 3) := by decide +kernel
theorem d_Model_putRecord_13 : decode (mC m_Model_putRecord) 13 = .ok (.aload_n 0, 1) := by decide +kernel
theorem d_Model_putRecord_14 : decode (mC m_Model_putRecord) 14 = .ok (.aload_n 0, 1) := by decide +kernel
theorem d_Model_putRecord_15 : decode (mC m_Model_putRecord) 15 = .ok (.getfield 82, 3) := by decide +kernel
theorem d_Model_putRecord_18 : decode (mC m_Model_putRecord) 18 = .ok (.i2l, 1) := by decide +kernel
theorem d_Model_putRecord_19 : decode (mC m_Model_putRecord) 19 = .ok (.bipush 8, 2) := by decide +kernel
theorem d_Model_putRecord_21 : decode (mC m_Model_putRecord) 21 = .ok (.invokevirtual 295, 3) := by decide +kernel
theorem d_Model_putRecord_24 : decode (mC m_Model_putRecord) 24 = .ok (.aload_n 0, 1) := by decide +kernel
theorem d_Model_putRecord_25 : decode (mC m_Model_putRecord) 25 = .ok (.aload_n 0, 1) := by decide +kernel
theorem d_Model_putRecord_26 : decode (mC m_Model_putRecord) 26 = .ok (.getfield 75, 3) := by decide +kernel
theorem d_Model_putRecord_29 : decode (mC m_Model_putRecord) 29 = .ok (.i2l, 1) := by decide +kernel
theorem d_Model_putRecord_30 : decode (mC m_Model_putRecord) 30 = .ok (.bipush 8, 2) := by decide +kernel
theorem d_Model_putRecord_32 : decode (mC m_Model_putRecord) 32 = .ok (.invokevirtual 295, 3) := by decide +kernel
theorem d_Model_putRecord_35 : decode (mC m_Model_putRecord) 35 = .ok (.return_, 1) := by decide +kernel
def b_Model_putRecord_0 (F : Nat) (v0 : Nat) (v1 : Int32) (w : zW) : Option (Unit × zW) := (zobj w v0 9).bind fun _ => (f_Model_lay F v0 (1 : Int64) (2 : Int32) w).bind fun r3 => (zobj r3.2 v0 9).bind fun _ => (f_Model_lay F v0 v1.toInt64 (2 : Int32) r3.2).bind fun r10 => (getI r10.2 v0 9 1).bind fun x15 => (zobj r10.2 v0 9).bind fun _ => (f_Model_lay F v0 x15.toInt64 (8 : Int32) r10.2).bind fun r21 => (getI r21.2 v0 9 6).bind fun x26 => (zobj r21.2 v0 9).bind fun _ => (f_Model_lay F v0 x26.toInt64 (8 : Int32) r21.2).bind fun r32 => some ((), r32.2)
set_option maxRecDepth 100000 in
set_option maxHeartbeats 4000000 in
theorem b_Model_putRecord_0_ok (G : zG) (F : Nat) (v0 : Nat) (v1 : Int32) (w : zW) (r : (Unit × zW)) (h : b_Model_putRecord_0 F v0 v1 w = some r) : zV G m_Model_putRecord 0 [(0, .ref (z0 G + v0)), (1, .int v1)] [] w 0 0 (oV r.1) r.2 := by
  unfold b_Model_putRecord_0 at h
  refine V_aload_n (i := 0) d_Model_putRecord_0 rfl 0 rfl ?_
  refine V_lconst (v := 1) d_Model_putRecord_1 (by decide) ?_
  refine V_iconst (v := 2) d_Model_putRecord_2 (by decide) ?_
  obtain ⟨_, eo3, h⟩ := ob h
  obtain ⟨r3, e3, h⟩ := ob h
  refine V_call (v := none) (st := []) (inv_V (N := m_Model_lay) (As := [.long (1 : Int64), .int (2 : Int32)]) (ci := 9) d_Model_putRecord_3 eo3 rfl k1239 k1241 sel_Model_lay kc_Model_lay y_Model_lay) ⟨Or.inl kc_Model_lay, k10, by decide, by decide⟩ (Nat.le_of_ble_eq_true rfl) (by decide) (by decide) (c_Model_lay G F v0 (1 : Int64) (2 : Int32) w r3 e3) ?_
  refine V_aload_n (i := 0) d_Model_putRecord_6 rfl 0 rfl ?_
  refine V_iload_n (i := 1) d_Model_putRecord_7 rfl 1 rfl ?_
  refine V_i2l d_Model_putRecord_8 ?_
  refine V_iconst (v := 2) d_Model_putRecord_9 (by decide) ?_
  obtain ⟨_, eo10, h⟩ := ob h
  obtain ⟨r10, e10, h⟩ := ob h
  refine V_call (v := none) (st := []) (inv_V (N := m_Model_lay) (As := [.long v1.toInt64, .int (2 : Int32)]) (ci := 9) d_Model_putRecord_10 eo10 rfl k1239 k1241 sel_Model_lay kc_Model_lay y_Model_lay) ⟨Or.inl kc_Model_lay, k10, by decide, by decide⟩ (Nat.le_of_ble_eq_true rfl) (by decide) (by decide) (c_Model_lay G F v0 v1.toInt64 (2 : Int32) r3.2 r10 e10) ?_
  refine V_aload_n (i := 0) d_Model_putRecord_13 rfl 0 rfl ?_
  refine V_aload_n (i := 0) d_Model_putRecord_14 rfl 0 rfl ?_
  obtain ⟨x15, e15, h⟩ := ob h
  refine V_getI (ci := 9) (k := 1) d_Model_putRecord_15 e15 rfl (by decide) in_Model k883 ?_
  refine V_i2l d_Model_putRecord_18 ?_
  refine V_bipush (v := 8) d_Model_putRecord_19 (by decide) ?_
  obtain ⟨_, eo21, h⟩ := ob h
  obtain ⟨r21, e21, h⟩ := ob h
  refine V_call (v := none) (st := []) (inv_V (N := m_Model_lay) (As := [.long x15.toInt64, .int (8 : Int32)]) (ci := 9) d_Model_putRecord_21 eo21 rfl k1239 k1241 sel_Model_lay kc_Model_lay y_Model_lay) ⟨Or.inl kc_Model_lay, k10, by decide, by decide⟩ (Nat.le_of_ble_eq_true rfl) (by decide) (by decide) (c_Model_lay G F v0 x15.toInt64 (8 : Int32) r10.2 r21 e21) ?_
  refine V_aload_n (i := 0) d_Model_putRecord_24 rfl 0 rfl ?_
  refine V_aload_n (i := 0) d_Model_putRecord_25 rfl 0 rfl ?_
  obtain ⟨x26, e26, h⟩ := ob h
  refine V_getI (ci := 9) (k := 6) d_Model_putRecord_26 e26 rfl (by decide) in_Model k888 ?_
  refine V_i2l d_Model_putRecord_29 ?_
  refine V_bipush (v := 8) d_Model_putRecord_30 (by decide) ?_
  obtain ⟨_, eo32, h⟩ := ob h
  obtain ⟨r32, e32, h⟩ := ob h
  refine V_call (v := none) (st := []) (inv_V (N := m_Model_lay) (As := [.long x26.toInt64, .int (8 : Int32)]) (ci := 9) d_Model_putRecord_32 eo32 rfl k1239 k1241 sel_Model_lay kc_Model_lay y_Model_lay) ⟨Or.inl kc_Model_lay, k10, by decide, by decide⟩ (Nat.le_of_ble_eq_true rfl) (by decide) (by decide) (c_Model_lay G F v0 x26.toInt64 (8 : Int32) r21.2 r32 e32) ?_
  obtain rfl := Option.some.inj h
  exact V_vret rfl (by decide) (by decide) d_Model_putRecord_35
def f_Model_putRecord (F : Nat) (v0 : Nat) (v1 : Int32) (w : zW) : Option (Unit × zW) := b_Model_putRecord_0 F v0 v1 w
theorem c_Model_putRecord (G : zG) (F : Nat) (v0 : Nat) (v1 : Int32) (w : zW) (r : (Unit × zW)) (h : f_Model_putRecord F v0 v1 w = some r) : zCT G m_Model_putRecord [.ref (z0 G + v0), .int v1] w (oV r.1) r.2 := zCT.ofV (by decide +kernel) (Or.inl ⟨kc_Model_putRecord, rfl⟩) (Nat.le_of_ble_eq_true rfl) (b_Model_putRecord_0_ok G F v0 v1 w r h)

/-! ZipArrayModel.putLocal(IIIZ)V -/
def m_Model_putLocal : zM := (⟨R_Model, "putLocal", "(IIIZ)V"⟩, prog_11_method_73_code, 6, none, [], { frames := 3, cells := 0, slots := 0, locals := 70 })
theorem k1282 : Cond.methodLink R_Model 318 (mY m_Model_putNumbers) ∈ zTb := tb_at 1282 (by decide +kernel) rfl
theorem k1284 : Cond.instanceMethod (mY m_Model_putNumbers) ∈ zTb := tb_at 1284 (by decide +kernel) rfl
theorem k1286 : Cond.constantLong R_Model 322 20 ∈ zTb := tb_at 1286 (by decide +kernel) rfl
theorem k1287 : Cond.methodLink R_Model 324 (mY m_Model_putName) ∈ zTb := tb_at 1287 (by decide +kernel) rfl
theorem k1289 : Cond.instanceMethod (mY m_Model_putName) ∈ zTb := tb_at 1289 (by decide +kernel) rfl
theorem k1291 : Cond.methodLink R_Model 327 (mY m_Model_putRecord) ∈ zTb := tb_at 1291 (by decide +kernel) rfl
theorem k1293 : Cond.instanceMethod (mY m_Model_putRecord) ∈ zTb := tb_at 1293 (by decide +kernel) rfl
theorem kc_Model_putLocal : Cond.code (mY m_Model_putLocal) (mC m_Model_putLocal) (mL m_Model_putLocal) (mT m_Model_putLocal) ∈ zTb := tb_at 1281 (by decide +kernel) rfl
theorem y_Model_putLocal : (mY m_Model_putLocal).cls ≠ "java/lang/invoke/MethodHandle" ∧ (mY m_Model_putLocal).cls ≠ "java/lang/invoke/VarHandle" ∧ (parseMethodDescriptor (mY m_Model_putLocal).desc).map (fun d => d.parameters.length) = some 4 := by decide +kernel
theorem sel_Model_putLocal : Cond.selects R_Model (mY m_Model_putLocal) (mY m_Model_putLocal) ∈ zTb := sel_at (y := mY m_Model_putLocal) (n := 33) 84 (by decide +kernel)
theorem d_Model_putLocal_0 : decode (mC m_Model_putLocal) 0 = .ok (.aload_n 0, 1) := by decide +kernel
theorem d_Model_putLocal_1 : decode (mC m_Model_putLocal) 1 = .ok (.ldc2_w 261, 3) := by decide +kernel
theorem d_Model_putLocal_4 : decode (mC m_Model_putLocal) 4 = .ok (.iconst 4, 1) := by decide +kernel
theorem d_Model_putLocal_5 : decode (mC m_Model_putLocal) 5 = .ok (.invokevirtual 295, 3) := by decide +kernel
theorem d_Model_putLocal_8 : decode (mC m_Model_putLocal) 8 = .ok (.aload_n 0, 1) := by decide +kernel
theorem d_Model_putLocal_9 : decode (mC m_Model_putLocal) 9 = .ok (.lconst 0, 1) := by decide +kernel
theorem d_Model_putLocal_10 : decode (mC m_Model_putLocal) 10 = .ok (.iconst 2, 1) := by decide +kernel
theorem d_Model_putLocal_11 : decode (mC m_Model_putLocal) 11 = .ok (.invokevirtual 295, 3) := by decide +kernel
theorem d_Model_putLocal_14 : decode (mC m_Model_putLocal) 14 = .ok (.aload_n 0, 1) := by decide +kernel
theorem d_Model_putLocal_15 : decode (mC m_Model_putLocal) 15 = .ok (.iload_n 1, 1) := by decide +kernel
theorem d_Model_putLocal_16 : decode (mC m_Model_putLocal) 16 = .ok (.iload_n 2, 1) := by decide +kernel
theorem d_Model_putLocal_17 : decode (mC m_Model_putLocal) 17 = .ok (.iload_n 3, 1) := by decide +kernel
theorem d_Model_putLocal_18 : decode (mC m_Model_putLocal) 18 = .ok (.iload 4, 2) := by decide +kernel
theorem d_Model_putLocal_20 : decode (mC m_Model_putLocal) 20 = .ok (.iload_n 2, 1) := by decide +kernel
theorem d_Model_putLocal_21 : decode (mC m_Model_putLocal) 21 = .ok (.bipush 8, 2) := by decide +kernel
theorem d_Model_putLocal_23 : decode (mC m_Model_putLocal) 23 = .ok (.if_icmp .ne 7, 3) := by decide +kernel
theorem d_Model_putLocal_26 : decode (mC m_Model_putLocal) 26 = .ok (.iconst 1, 1) := by decide +kernel
theorem d_Model_putLocal_27 : decode (mC m_Model_putLocal) 27 = .ok (.goto 4, 3) := by decide +kernel
theorem d_Model_putLocal_30 : decode (mC m_Model_putLocal) 30 = .ok (.iconst 0, 1) := by decide +kernel
theorem d_Model_putLocal_31 : decode (mC m_Model_putLocal) 31 = .ok (.invokevirtual 318, 3) := by decide +kernel
theorem d_Model_putLocal_34 : decode (mC m_Model_putLocal) 34 = .ok (.aload_n 0, 1) := by decide +kernel
theorem d_Model_putLocal_35 : decode (mC m_Model_putLocal) 35 = .ok (.iload 4, 2) := by decide +kernel
theorem d_Model_putLocal_37 : decode (mC m_Model_putLocal) 37 = .ok (.ifCond .eq 9, 3) := by decide +kernel
theorem d_Model_putLocal_40 : decode (mC m_Model_putLocal) 40 = .ok (.ldc2_w 322, 3) := by decide +kernel
theorem d_Model_putLocal_43 : decode (mC m_Model_putLocal) 43 = .ok (.goto 4, 3) := by decide +kernel
theorem d_Model_putLocal_46 : decode (mC m_Model_putLocal) 46 = .ok (.lconst 0, 1) := by decide +kernel
theorem d_Model_putLocal_47 : decode (mC m_Model_putLocal) 47 = .ok (.iconst 2, 1) := by decide +kernel
theorem d_Model_putLocal_48 : decode (mC m_Model_putLocal) 48 = .ok (.invokevirtual 295, 3) := by decide +kernel
theorem d_Model_putLocal_51 : decode (mC m_Model_putLocal) 51 = .ok (.aload_n 0, 1) := by decide +kernel
theorem d_Model_putLocal_52 : decode (mC m_Model_putLocal) 52 = .ok (.iload_n 1, 1) := by decide +kernel
theorem d_Model_putLocal_53 : decode (mC m_Model_putLocal) 53 = .ok (.invokevirtual 324, 3) := by decide +kernel
theorem d_Model_putLocal_56 : decode (mC m_Model_putLocal) 56 = .ok (.iload 4, 2) := by decide +kernel
theorem d_Model_putLocal_58 : decode (mC m_Model_putLocal) 58 = .ok (.ifCond .eq 9, 3) := by decide +kernel
theorem d_Model_putLocal_61 : decode (mC m_Model_putLocal) 61 = .ok (.aload_n 0, 1) := by decide +kernel
theorem d_Model_putLocal_62 : decode (mC m_Model_putLocal) 62 = .ok (.bipush 16, 2) := by decide +kernel
theorem d_Model_putLocal_64 : decode (mC m_Model_putLocal) 64 = .ok (.invokevirtual 327, 3) := by decide +kernel
theorem d_Model_putLocal_67 : decode (mC m_Model_putLocal) 67 = .ok (.iconst 0, 1) := by decide +kernel
theorem d_Model_putLocal_68 : decode (mC m_Model_putLocal) 68 = .ok (.istore 5, 2) := by decide +kernel
theorem d_Model_putLocal_70 : decode (mC m_Model_putLocal) 70 = .ok (.iload 5, 2) := by decide +kernel
theorem d_Model_putLocal_72 : decode (mC m_Model_putLocal) 72 = .ok (.aload_n 0, 1) := by decide +kernel
theorem d_Model_putLocal_73 : decode (mC m_Model_putLocal) 73 = .ok (.getfield 75, 3) := by decide +kernel
theorem d_Model_putLocal_76 : decode (mC m_Model_putLocal) 76 = .ok (.if_icmp .ge 22, 3) := by decide +kernel
theorem d_Model_putLocal_79 : decode (mC m_Model_putLocal) 79 = .ok (.aload_n 0, 1) := by decide +kernel
theorem d_Model_putLocal_80 : decode (mC m_Model_putLocal) 80 = .ok (.aload_n 0, 1) := by decide +kernel
theorem d_Model_putLocal_81 : decode (mC m_Model_putLocal) 81 = .ok (.getfield 16, 3) := by decide +kernel
theorem d_Model_putLocal_84 : decode (mC m_Model_putLocal) 84 = .ok (.iload 5, 2) := by decide +kernel
theorem d_Model_putLocal_86 : decode (mC m_Model_putLocal) 86 = .ok (.iaload, 1) := by decide +kernel
theorem d_Model_putLocal_87 : decode (mC m_Model_putLocal) 87 = .ok (.i2l, 1) := by decide +kernel
theorem d_Model_putLocal_88 : decode (mC m_Model_putLocal) 88 = .ok (.iconst 1, 1) := by decide +kernel
theorem d_Model_putLocal_89 : decode (mC m_Model_putLocal) 89 = .ok (.invokevirtual 295, 3) := by decide +kernel
theorem d_Model_putLocal_92 : decode (mC m_Model_putLocal) 92 = .ok (.iinc 5 1, 3) := by decide +kernel
theorem d_Model_putLocal_95 : decode (mC m_Model_putLocal) 95 = .ok (.goto (-25), 3) := by decide +kernel
theorem d_Model_putLocal_98 : decode (mC m_Model_putLocal) 98 = .ok (.iload_n 2, 1) := by decide +kernel
theorem d_Model_putLocal_99 : decode (mC m_Model_putLocal) 99 = .ok (.bipush 8, 2) := by decide +kernel
theorem d_Model_putLocal_101 : decode (mC m_Model_putLocal) 101 = .ok (.if_icmp .ne 41, 3) := by decide +kernel
theorem d_Model_putLocal_104 : decode (mC m_Model_putLocal) 104 = .ok (.aload_n 0, 1) := by decide +kernel
theorem d_Model_putLocal_105 : decode (mC m_Model_putLocal) 105 = .ok (.ldc2_w 270, 3) := by decide +kernel
theorem d_Model_putLocal_108 : decode (mC m_Model_putLocal) 108 = .ok (.iconst 4, 1) := by decide +kernel
theorem d_Model_putLocal_109 : decode (mC m_Model_putLocal) 109 = .ok (.invokevirtual 295, 3) := by decide +kernel
theorem d_Model_putLocal_112 : decode (mC m_Model_putLocal) 112 = .ok (.aload_n 0, 1) := by decide +kernel
theorem d_Model_putLocal_113 : decode (mC m_Model_putLocal) 113 = .ok (.aload_n 0, 1) := by decide +kernel
theorem d_Model_putLocal_114 : decode (mC m_Model_putLocal) 114 = .ok (.invokevirtual 95, 3) := by decide +kernel
theorem d_Model_putLocal_117 : decode (mC m_Model_putLocal) 117 = .ok (.i2l, 1) := by decide +kernel
theorem d_Model_putLocal_118 : decode (mC m_Model_putLocal) 118 = .ok (.iconst 4, 1) := by decide +kernel
theorem d_Model_putLocal_119 : decode (mC m_Model_putLocal) 119 = .ok (.invokevirtual 295, 3) := by decide +kernel
theorem d_Model_putLocal_122 : decode (mC m_Model_putLocal) 122 = .ok (.aload_n 0, 1) := by decide +kernel
theorem d_Model_putLocal_123 : decode (mC m_Model_putLocal) 123 = .ok (.aload_n 0, 1) := by decide +kernel
theorem d_Model_putLocal_124 : decode (mC m_Model_putLocal) 124 = .ok (.getfield 75, 3) := by decide +kernel
theorem d_Model_putLocal_127 : decode (mC m_Model_putLocal) 127 = .ok (.i2l, 1) := by decide +kernel
theorem d_Model_putLocal_128 : decode (mC m_Model_putLocal) 128 = .ok (.iconst 4, 1) := by decide +kernel
theorem d_Model_putLocal_129 : decode (mC m_Model_putLocal) 129 = .ok (.invokevirtual 295, 3) := by decide +kernel
theorem d_Model_putLocal_132 : decode (mC m_Model_putLocal) 132 = .ok (.aload_n 0, 1) := by decide +kernel
theorem d_Model_putLocal_133 : decode (mC m_Model_putLocal) 133 = .ok (.aload_n 0, 1) := by decide +kernel
theorem d_Model_putLocal_134 : decode (mC m_Model_putLocal) 134 = .ok (.getfield 82, 3) := by decide +kernel
theorem d_Model_putLocal_137 : decode (mC m_Model_putLocal) 137 = .ok (.i2l, 1) := by decide +kernel
theorem d_Model_putLocal_138 : decode (mC m_Model_putLocal) 138 = .ok (.iconst 4, 1) := by decide +kernel
theorem d_Model_putLocal_139 : decode (mC m_Model_putLocal) 139 = .ok (.invokevirtual 295, 3) := by decide +kernel
theorem d_Model_putLocal_142 : decode (mC m_Model_putLocal) 142 = .ok (.return_, 1) := by decide +kernel
def b_Model_putLocal_70 (F : Nat) (K70 : Nat → Int32 → Int32 → zW → Option (Unit × zW)) (v0 : Nat) (v2 : Int32) (v5 : Int32) (w : zW) : Option (Unit × zW) := (getI w v0 9 6).bind fun x73 => if x73 ≤ v5 then (if v2 = (8 : Int32) then ((zobj w v0 9).bind fun _ => (f_Model_lay F v0 (134695760 : Int64) (4 : Int32) w).bind fun r109 => (zobj r109.2 v0 9).bind fun _ => (f_Model_crcOfBuffer F v0 r109.2).bind fun r114 => (zobj r114.2 v0 9).bind fun _ => (f_Model_lay F v0 r114.1.toInt64 (4 : Int32) r114.2).bind fun r119 => (getI r119.2 v0 9 6).bind fun x124 => (zobj r119.2 v0 9).bind fun _ => (f_Model_lay F v0 x124.toInt64 (4 : Int32) r119.2).bind fun r129 => (getI r129.2 v0 9 1).bind fun x134 => (zobj r129.2 v0 9).bind fun _ => (f_Model_lay F v0 x134.toInt64 (4 : Int32) r129.2).bind fun r139 => some ((), r139.2)) else (some ((), w))) else ((getR w v0 9 7).bind fun x81 => (aget w x81 v5).bind fun x86 => (zobj w v0 9).bind fun _ => (f_Model_lay F v0 x86.toInt64 (1 : Int32) w).bind fun r89 => K70 v0 v2 (v5 + (1 : Int32)) r89.2)
set_option maxRecDepth 100000 in
set_option maxHeartbeats 4000000 in
theorem b_Model_putLocal_70_ok (G : zG) (F : Nat) (K70 : Nat → Int32 → Int32 → zW → Option (Unit × zW)) (hK70 : ∀ (v0 : Nat) (v2 : Int32) (v5 : Int32) (w : zW) (r : (Unit × zW)), K70 v0 v2 v5 w = some r → zV G m_Model_putLocal 70 [(0, .ref (z0 G + v0)), (2, .int v2), (5, .int v5)] [] w 0 0 (oV r.1) r.2) (v0 : Nat) (v2 : Int32) (v5 : Int32) (w : zW) (r : (Unit × zW)) (h : b_Model_putLocal_70 F K70 v0 v2 v5 w = some r) : zV G m_Model_putLocal 70 [(0, .ref (z0 G + v0)), (2, .int v2), (5, .int v5)] [] w 0 0 (oV r.1) r.2 := by
  unfold b_Model_putLocal_70 at h
  refine V_iload (i := 5) d_Model_putLocal_70 2 rfl ?_
  refine V_aload_n (i := 0) d_Model_putLocal_72 rfl 0 rfl ?_
  obtain ⟨x73, e73, h⟩ := ob h
  refine V_getI (ci := 9) (k := 6) d_Model_putLocal_73 e73 rfl (by decide) in_Model k888 ?_
  refine V_icmp_ge (tgt := 98) d_Model_putLocal_76 (by decide) (fun c76 => ?_) (fun c76 => ?_)
  · rw [if_pos c76] at h
    refine V_iload_n (i := 2) d_Model_putLocal_98 rfl 1 rfl ?_
    refine V_bipush (v := 8) d_Model_putLocal_99 (by decide) ?_
    refine V_icmp_ne (tgt := 142) d_Model_putLocal_101 (by decide) (fun c101 => ?_) (fun c101 => ?_)
    · rw [if_neg c101] at h
      obtain rfl := Option.some.inj h
      exact V_vret rfl (by decide) (by decide) d_Model_putLocal_142
    · rw [if_pos c101] at h
      refine V_aload_n (i := 0) d_Model_putLocal_104 rfl 0 rfl ?_
      refine V_ldc2 (v := 134695760) d_Model_putLocal_105 k1213 ?_
      refine V_iconst (v := 4) d_Model_putLocal_108 (by decide) ?_
      obtain ⟨_, eo109, h⟩ := ob h
      obtain ⟨r109, e109, h⟩ := ob h
      refine V_call (v := none) (st := []) (inv_V (N := m_Model_lay) (As := [.long (134695760 : Int64), .int (4 : Int32)]) (ci := 9) d_Model_putLocal_109 eo109 rfl k1239 k1241 sel_Model_lay kc_Model_lay y_Model_lay) ⟨Or.inl kc_Model_lay, k10, by decide, by decide⟩ (Nat.le_of_ble_eq_true rfl) (by decide) (by decide) (c_Model_lay G F v0 (134695760 : Int64) (4 : Int32) w r109 e109) ?_
      refine V_aload_n (i := 0) d_Model_putLocal_112 rfl 0 rfl ?_
      refine V_aload_n (i := 0) d_Model_putLocal_113 rfl 0 rfl ?_
      obtain ⟨_, eo114, h⟩ := ob h
      obtain ⟨r114, e114, h⟩ := ob h
      refine V_call (v := some (.int r114.1)) (st := [.ref (z0 G + v0)]) (inv_V (N := m_Model_crcOfBuffer) (As := []) (ci := 9) d_Model_putLocal_114 eo114 rfl k1016 k1018 sel_Model_crcOfBuffer kc_Model_crcOfBuffer y_Model_crcOfBuffer) ⟨Or.inl kc_Model_crcOfBuffer, k10, by decide, by decide⟩ (Nat.le_of_ble_eq_true rfl) (by decide) (by decide) (c_Model_crcOfBuffer G F v0 r109.2 r114 e114) ?_
      refine V_i2l d_Model_putLocal_117 ?_
      refine V_iconst (v := 4) d_Model_putLocal_118 (by decide) ?_
      obtain ⟨_, eo119, h⟩ := ob h
      obtain ⟨r119, e119, h⟩ := ob h
      refine V_call (v := none) (st := []) (inv_V (N := m_Model_lay) (As := [.long r114.1.toInt64, .int (4 : Int32)]) (ci := 9) d_Model_putLocal_119 eo119 rfl k1239 k1241 sel_Model_lay kc_Model_lay y_Model_lay) ⟨Or.inl kc_Model_lay, k10, by decide, by decide⟩ (Nat.le_of_ble_eq_true rfl) (by decide) (by decide) (c_Model_lay G F v0 r114.1.toInt64 (4 : Int32) r114.2 r119 e119) ?_
      refine V_aload_n (i := 0) d_Model_putLocal_122 rfl 0 rfl ?_
      refine V_aload_n (i := 0) d_Model_putLocal_123 rfl 0 rfl ?_
      obtain ⟨x124, e124, h⟩ := ob h
      refine V_getI (ci := 9) (k := 6) d_Model_putLocal_124 e124 rfl (by decide) in_Model k888 ?_
      refine V_i2l d_Model_putLocal_127 ?_
      refine V_iconst (v := 4) d_Model_putLocal_128 (by decide) ?_
      obtain ⟨_, eo129, h⟩ := ob h
      obtain ⟨r129, e129, h⟩ := ob h
      refine V_call (v := none) (st := []) (inv_V (N := m_Model_lay) (As := [.long x124.toInt64, .int (4 : Int32)]) (ci := 9) d_Model_putLocal_129 eo129 rfl k1239 k1241 sel_Model_lay kc_Model_lay y_Model_lay) ⟨Or.inl kc_Model_lay, k10, by decide, by decide⟩ (Nat.le_of_ble_eq_true rfl) (by decide) (by decide) (c_Model_lay G F v0 x124.toInt64 (4 : Int32) r119.2 r129 e129) ?_
      refine V_aload_n (i := 0) d_Model_putLocal_132 rfl 0 rfl ?_
      refine V_aload_n (i := 0) d_Model_putLocal_133 rfl 0 rfl ?_
      obtain ⟨x134, e134, h⟩ := ob h
      refine V_getI (ci := 9) (k := 1) d_Model_putLocal_134 e134 rfl (by decide) in_Model k883 ?_
      refine V_i2l d_Model_putLocal_137 ?_
      refine V_iconst (v := 4) d_Model_putLocal_138 (by decide) ?_
      obtain ⟨_, eo139, h⟩ := ob h
      obtain ⟨r139, e139, h⟩ := ob h
      refine V_call (v := none) (st := []) (inv_V (N := m_Model_lay) (As := [.long x134.toInt64, .int (4 : Int32)]) (ci := 9) d_Model_putLocal_139 eo139 rfl k1239 k1241 sel_Model_lay kc_Model_lay y_Model_lay) ⟨Or.inl kc_Model_lay, k10, by decide, by decide⟩ (Nat.le_of_ble_eq_true rfl) (by decide) (by decide) (c_Model_lay G F v0 x134.toInt64 (4 : Int32) r129.2 r139 e139) ?_
      obtain rfl := Option.some.inj h
      exact V_vret rfl (by decide) (by decide) d_Model_putLocal_142
  · rw [if_neg c76] at h
    refine V_aload_n (i := 0) d_Model_putLocal_79 rfl 0 rfl ?_
    refine V_aload_n (i := 0) d_Model_putLocal_80 rfl 0 rfl ?_
    obtain ⟨x81, e81, h⟩ := ob h
    refine V_getR (ci := 9) (k := 7) d_Model_putLocal_81 e81 rfl (by decide) in_Model k889 ?_
    refine V_iload (i := 5) d_Model_putLocal_84 2 rfl ?_
    obtain ⟨x86, e86, h⟩ := ob h
    refine V_aget d_Model_putLocal_86 e86 ?_
    refine V_i2l d_Model_putLocal_87 ?_
    refine V_iconst (v := 1) d_Model_putLocal_88 (by decide) ?_
    obtain ⟨_, eo89, h⟩ := ob h
    obtain ⟨r89, e89, h⟩ := ob h
    refine V_call (v := none) (st := []) (inv_V (N := m_Model_lay) (As := [.long x86.toInt64, .int (1 : Int32)]) (ci := 9) d_Model_putLocal_89 eo89 rfl k1239 k1241 sel_Model_lay kc_Model_lay y_Model_lay) ⟨Or.inl kc_Model_lay, k10, by decide, by decide⟩ (Nat.le_of_ble_eq_true rfl) (by decide) (by decide) (c_Model_lay G F v0 x86.toInt64 (1 : Int32) w r89 e89) ?_
    refine V_iinc (i := 5) (v := (v5 + (1 : Int32))) d_Model_putLocal_92 2 rfl (congrArg (fun y => v5 + y) (by decide : Int32.ofInt (1) = (1 : Int32))) (by decide) rfl ?_
    refine V_goto (tgt := 70) d_Model_putLocal_95 (by decide) ?_
    refine V_lv [1, 2, 0] rfl ?_
    exact hK70 v0 v2 (v5 + (1 : Int32)) r89.2 _ h
def l_Model_putLocal_70 (F : Nat) : Nat → Nat → Int32 → Int32 → zW → Option (Unit × zW)
  | 0 => fun _ _ _ _ => none
  | n + 1 => b_Model_putLocal_70 F (l_Model_putLocal_70 F n)
theorem l_Model_putLocal_70_ok (G : zG) (F : Nat) (n : Nat) :  ∀ (v0 : Nat) (v2 : Int32) (v5 : Int32) (w : zW) (r : (Unit × zW)), l_Model_putLocal_70 F n v0 v2 v5 w = some r → zV G m_Model_putLocal 70 [(0, .ref (z0 G + v0)), (2, .int v2), (5, .int v5)] [] w 0 0 (oV r.1) r.2 := by
  induction n with
  | zero => intro v0 v2 v5 w r h; exact nomatch (show (none : Option (Unit × zW)) = some r from h)
  | succ n ih => intro v0 v2 v5 w r h; exact b_Model_putLocal_70_ok G F (l_Model_putLocal_70 F n) ih v0 v2 v5 w r h
def b_Model_putLocal_67 (F : Nat) (v0 : Nat) (v2 : Int32) (w : zW) : Option (Unit × zW) := l_Model_putLocal_70 F F v0 v2 (0 : Int32) w
set_option maxRecDepth 100000 in
set_option maxHeartbeats 4000000 in
theorem b_Model_putLocal_67_ok (G : zG) (F : Nat) (v0 : Nat) (v2 : Int32) (w : zW) (r : (Unit × zW)) (h : b_Model_putLocal_67 F v0 v2 w = some r) : zV G m_Model_putLocal 67 [(0, .ref (z0 G + v0)), (2, .int v2)] [] w 0 0 (oV r.1) r.2 := by
  unfold b_Model_putLocal_67 at h
  refine V_iconst (v := 0) d_Model_putLocal_67 (by decide) ?_
  refine V_istore (i := 5) d_Model_putLocal_68 (by decide) rfl ?_
  refine V_lv [1, 2, 0] rfl ?_
  exact l_Model_putLocal_70_ok G F F v0 v2 (0 : Int32) w _ h
def b_Model_putLocal_47 (F : Nat) (v0 : Nat) (v1 : Int32) (v2 : Int32) (v4 : Int32) (s0 : Nat) (s1 : Int64) (w : zW) : Option (Unit × zW) := (zobj w s0 9).bind fun _ => (f_Model_lay F s0 s1 (2 : Int32) w).bind fun r48 => (zobj r48.2 v0 9).bind fun _ => (f_Model_putName F v0 v1 r48.2).bind fun r53 => if v4 = 0 then (b_Model_putLocal_67 F v0 v2 r53.2) else ((zobj r53.2 v0 9).bind fun _ => (f_Model_putRecord F v0 (16 : Int32) r53.2).bind fun r64 => b_Model_putLocal_67 F v0 v2 r64.2)
set_option maxRecDepth 100000 in
set_option maxHeartbeats 4000000 in
theorem b_Model_putLocal_47_ok (G : zG) (F : Nat) (v0 : Nat) (v1 : Int32) (v2 : Int32) (v4 : Int32) (s0 : Nat) (s1 : Int64) (w : zW) (r : (Unit × zW)) (h : b_Model_putLocal_47 F v0 v1 v2 v4 s0 s1 w = some r) : zV G m_Model_putLocal 47 [(0, .ref (z0 G + v0)), (1, .int v1), (2, .int v2), (4, .int v4)] [.long s1, .ref (z0 G + s0)] w 0 0 (oV r.1) r.2 := by
  unfold b_Model_putLocal_47 at h
  refine V_iconst (v := 2) d_Model_putLocal_47 (by decide) ?_
  obtain ⟨_, eo48, h⟩ := ob h
  obtain ⟨r48, e48, h⟩ := ob h
  refine V_call (v := none) (st := []) (inv_V (N := m_Model_lay) (As := [.long s1, .int (2 : Int32)]) (ci := 9) d_Model_putLocal_48 eo48 rfl k1239 k1241 sel_Model_lay kc_Model_lay y_Model_lay) ⟨Or.inl kc_Model_lay, k10, by decide, by decide⟩ (Nat.le_of_ble_eq_true rfl) (by decide) (by decide) (c_Model_lay G F s0 s1 (2 : Int32) w r48 e48) ?_
  refine V_aload_n (i := 0) d_Model_putLocal_51 rfl 0 rfl ?_
  refine V_iload_n (i := 1) d_Model_putLocal_52 rfl 1 rfl ?_
  obtain ⟨_, eo53, h⟩ := ob h
  obtain ⟨r53, e53, h⟩ := ob h
  refine V_call (v := none) (st := []) (inv_V (N := m_Model_putName) (As := [.int v1]) (ci := 9) d_Model_putLocal_53 eo53 rfl k1287 k1289 sel_Model_putName kc_Model_putName y_Model_putName) ⟨Or.inl kc_Model_putName, k10, by decide, by decide⟩ (Nat.le_of_ble_eq_true rfl) (by decide) (by decide) (c_Model_putName G F v0 v1 r48.2 r53 e53) ?_
  refine V_iload (i := 4) d_Model_putLocal_56 3 rfl ?_
  refine V_if_eq (tgt := 67) d_Model_putLocal_58 (by decide) (fun c58 => ?_) (fun c58 => ?_)
  · rw [if_pos c58] at h
    refine V_lv [0, 2] rfl ?_
    exact b_Model_putLocal_67_ok G F v0 v2 r53.2 _ h
  · rw [if_neg c58] at h
    refine V_aload_n (i := 0) d_Model_putLocal_61 rfl 0 rfl ?_
    refine V_bipush (v := 16) d_Model_putLocal_62 (by decide) ?_
    obtain ⟨_, eo64, h⟩ := ob h
    obtain ⟨r64, e64, h⟩ := ob h
    refine V_call (v := none) (st := []) (inv_V (N := m_Model_putRecord) (As := [.int (16 : Int32)]) (ci := 9) d_Model_putLocal_64 eo64 rfl k1291 k1293 sel_Model_putRecord kc_Model_putRecord y_Model_putRecord) ⟨Or.inl kc_Model_putRecord, k10, by decide, by decide⟩ (Nat.le_of_ble_eq_true rfl) (by decide) (by decide) (c_Model_putRecord G F v0 (16 : Int32) r53.2 r64 e64) ?_
    refine V_lv [0, 2] rfl ?_
    exact b_Model_putLocal_67_ok G F v0 v2 r64.2 _ h
def b_Model_putLocal_31 (F : Nat) (v0 : Nat) (v1 : Int32) (v2 : Int32) (v4 : Int32) (s0 : Nat) (s1 : Int32) (s2 : Int32) (s3 : Int32) (s4 : Int32) (s5 : Int32) (w : zW) : Option (Unit × zW) := (zobj w s0 9).bind fun _ => (f_Model_putNumbers F s0 s1 s2 s3 s4 s5 w).bind fun r31 => if v4 = 0 then (b_Model_putLocal_47 F v0 v1 v2 v4 v0 (0 : Int64) r31.2) else (b_Model_putLocal_47 F v0 v1 v2 v4 v0 (20 : Int64) r31.2)
set_option maxRecDepth 100000 in
set_option maxHeartbeats 4000000 in
theorem b_Model_putLocal_31_ok (G : zG) (F : Nat) (v0 : Nat) (v1 : Int32) (v2 : Int32) (v4 : Int32) (s0 : Nat) (s1 : Int32) (s2 : Int32) (s3 : Int32) (s4 : Int32) (s5 : Int32) (w : zW) (r : (Unit × zW)) (h : b_Model_putLocal_31 F v0 v1 v2 v4 s0 s1 s2 s3 s4 s5 w = some r) : zV G m_Model_putLocal 31 [(0, .ref (z0 G + v0)), (1, .int v1), (2, .int v2), (4, .int v4)] [.int s5, .int s4, .int s3, .int s2, .int s1, .ref (z0 G + s0)] w 0 0 (oV r.1) r.2 := by
  unfold b_Model_putLocal_31 at h
  obtain ⟨_, eo31, h⟩ := ob h
  obtain ⟨r31, e31, h⟩ := ob h
  refine V_call (v := none) (st := []) (inv_V (N := m_Model_putNumbers) (As := [.int s1, .int s2, .int s3, .int s4, .int s5]) (ci := 9) d_Model_putLocal_31 eo31 rfl k1282 k1284 sel_Model_putNumbers kc_Model_putNumbers y_Model_putNumbers) ⟨Or.inl kc_Model_putNumbers, k10, by decide, by decide⟩ (Nat.le_of_ble_eq_true rfl) (by decide) (by decide) (c_Model_putNumbers G F s0 s1 s2 s3 s4 s5 w r31 e31) ?_
  refine V_aload_n (i := 0) d_Model_putLocal_34 rfl 0 rfl ?_
  refine V_iload (i := 4) d_Model_putLocal_35 3 rfl ?_
  refine V_if_eq (tgt := 46) d_Model_putLocal_37 (by decide) (fun c37 => ?_) (fun c37 => ?_)
  · rw [if_pos c37] at h
    refine V_lconst (v := 0) d_Model_putLocal_46 (by decide) ?_
    exact b_Model_putLocal_47_ok G F v0 v1 v2 v4 v0 (0 : Int64) r31.2 _ h
  · rw [if_neg c37] at h
    refine V_ldc2 (v := 20) d_Model_putLocal_40 k1286 ?_
    refine V_goto (tgt := 47) d_Model_putLocal_43 (by decide) ?_
    exact b_Model_putLocal_47_ok G F v0 v1 v2 v4 v0 (20 : Int64) r31.2 _ h
def b_Model_putLocal_0 (F : Nat) (v0 : Nat) (v1 : Int32) (v2 : Int32) (v3 : Int32) (v4 : Int32) (w : zW) : Option (Unit × zW) := (zobj w v0 9).bind fun _ => (f_Model_lay F v0 (67324752 : Int64) (4 : Int32) w).bind fun r5 => (zobj r5.2 v0 9).bind fun _ => (f_Model_lay F v0 (0 : Int64) (2 : Int32) r5.2).bind fun r11 => if v2 = (8 : Int32) then (b_Model_putLocal_31 F v0 v1 v2 v4 v0 v1 v2 v3 v4 (1 : Int32) r11.2) else (b_Model_putLocal_31 F v0 v1 v2 v4 v0 v1 v2 v3 v4 (0 : Int32) r11.2)
set_option maxRecDepth 100000 in
set_option maxHeartbeats 4000000 in
theorem b_Model_putLocal_0_ok (G : zG) (F : Nat) (v0 : Nat) (v1 : Int32) (v2 : Int32) (v3 : Int32) (v4 : Int32) (w : zW) (r : (Unit × zW)) (h : b_Model_putLocal_0 F v0 v1 v2 v3 v4 w = some r) : zV G m_Model_putLocal 0 [(0, .ref (z0 G + v0)), (1, .int v1), (2, .int v2), (3, .int v3), (4, .int v4)] [] w 0 0 (oV r.1) r.2 := by
  unfold b_Model_putLocal_0 at h
  refine V_aload_n (i := 0) d_Model_putLocal_0 rfl 0 rfl ?_
  refine V_ldc2 (v := 67324752) d_Model_putLocal_1 k1200 ?_
  refine V_iconst (v := 4) d_Model_putLocal_4 (by decide) ?_
  obtain ⟨_, eo5, h⟩ := ob h
  obtain ⟨r5, e5, h⟩ := ob h
  refine V_call (v := none) (st := []) (inv_V (N := m_Model_lay) (As := [.long (67324752 : Int64), .int (4 : Int32)]) (ci := 9) d_Model_putLocal_5 eo5 rfl k1239 k1241 sel_Model_lay kc_Model_lay y_Model_lay) ⟨Or.inl kc_Model_lay, k10, by decide, by decide⟩ (Nat.le_of_ble_eq_true rfl) (by decide) (by decide) (c_Model_lay G F v0 (67324752 : Int64) (4 : Int32) w r5 e5) ?_
  refine V_aload_n (i := 0) d_Model_putLocal_8 rfl 0 rfl ?_
  refine V_lconst (v := 0) d_Model_putLocal_9 (by decide) ?_
  refine V_iconst (v := 2) d_Model_putLocal_10 (by decide) ?_
  obtain ⟨_, eo11, h⟩ := ob h
  obtain ⟨r11, e11, h⟩ := ob h
  refine V_call (v := none) (st := []) (inv_V (N := m_Model_lay) (As := [.long (0 : Int64), .int (2 : Int32)]) (ci := 9) d_Model_putLocal_11 eo11 rfl k1239 k1241 sel_Model_lay kc_Model_lay y_Model_lay) ⟨Or.inl kc_Model_lay, k10, by decide, by decide⟩ (Nat.le_of_ble_eq_true rfl) (by decide) (by decide) (c_Model_lay G F v0 (0 : Int64) (2 : Int32) r5.2 r11 e11) ?_
  refine V_aload_n (i := 0) d_Model_putLocal_14 rfl 0 rfl ?_
  refine V_iload_n (i := 1) d_Model_putLocal_15 rfl 1 rfl ?_
  refine V_iload_n (i := 2) d_Model_putLocal_16 rfl 2 rfl ?_
  refine V_iload_n (i := 3) d_Model_putLocal_17 rfl 3 rfl ?_
  refine V_iload (i := 4) d_Model_putLocal_18 4 rfl ?_
  refine V_iload_n (i := 2) d_Model_putLocal_20 rfl 2 rfl ?_
  refine V_bipush (v := 8) d_Model_putLocal_21 (by decide) ?_
  refine V_icmp_ne (tgt := 30) d_Model_putLocal_23 (by decide) (fun c23 => ?_) (fun c23 => ?_)
  · rw [if_neg c23] at h
    refine V_iconst (v := 0) d_Model_putLocal_30 (by decide) ?_
    refine V_lv [0, 1, 2, 4] rfl ?_
    exact b_Model_putLocal_31_ok G F v0 v1 v2 v4 v0 v1 v2 v3 v4 (0 : Int32) r11.2 _ h
  · rw [if_pos c23] at h
    refine V_iconst (v := 1) d_Model_putLocal_26 (by decide) ?_
    refine V_goto (tgt := 31) d_Model_putLocal_27 (by decide) ?_
    refine V_lv [0, 1, 2, 4] rfl ?_
    exact b_Model_putLocal_31_ok G F v0 v1 v2 v4 v0 v1 v2 v3 v4 (1 : Int32) r11.2 _ h
def f_Model_putLocal (F : Nat) (v0 : Nat) (v1 : Int32) (v2 : Int32) (v3 : Int32) (v4 : Int32) (w : zW) : Option (Unit × zW) := b_Model_putLocal_0 F v0 v1 v2 v3 v4 w
theorem c_Model_putLocal (G : zG) (F : Nat) (v0 : Nat) (v1 : Int32) (v2 : Int32) (v3 : Int32) (v4 : Int32) (w : zW) (r : (Unit × zW)) (h : f_Model_putLocal F v0 v1 v2 v3 v4 w = some r) : zCT G m_Model_putLocal [.ref (z0 G + v0), .int v1, .int v2, .int v3, .int v4] w (oV r.1) r.2 := zCT.ofV (by decide +kernel) (Or.inl ⟨kc_Model_putLocal, rfl⟩) (Nat.le_of_ble_eq_true rfl) (b_Model_putLocal_0_ok G F v0 v1 v2 v3 v4 w r h)

/-! ZipArrayModel.putPart(IIIZ)V -/
def m_Model_putPart : zM := (⟨R_Model, "putPart", "(IIIZ)V"⟩, prog_11_method_74_code, 5, none, [], { frames := 3, cells := 0, slots := 0, locals := 70 })
theorem k1303 : Cond.constantLong R_Model 330 28 ∈ zTb := tb_at 1303 (by decide +kernel) rfl
theorem kc_Model_putPart : Cond.code (mY m_Model_putPart) (mC m_Model_putPart) (mL m_Model_putPart) (mT m_Model_putPart) ∈ zTb := tb_at 1302 (by decide +kernel) rfl
theorem y_Model_putPart : (mY m_Model_putPart).cls ≠ "java/lang/invoke/MethodHandle" ∧ (mY m_Model_putPart).cls ≠ "java/lang/invoke/VarHandle" ∧ (parseMethodDescriptor (mY m_Model_putPart).desc).map (fun d => d.parameters.length) = some 4 := by decide +kernel
theorem sel_Model_putPart : Cond.selects R_Model (mY m_Model_putPart) (mY m_Model_putPart) ∈ zTb := sel_at (y := mY m_Model_putPart) (n := 33) 89 (by decide +kernel)
theorem d_Model_putPart_0 : decode (mC m_Model_putPart) 0 = .ok (.aload_n 0, 1) := by decide +kernel
theorem d_Model_putPart_1 : decode (mC m_Model_putPart) 1 = .ok (.ldc2_w 230, 3) := by decide +kernel
theorem d_Model_putPart_4 : decode (mC m_Model_putPart) 4 = .ok (.iconst 4, 1) := by decide +kernel
theorem d_Model_putPart_5 : decode (mC m_Model_putPart) 5 = .ok (.invokevirtual 295, 3) := by decide +kernel
theorem d_Model_putPart_8 : decode (mC m_Model_putPart) 8 = .ok (.aload_n 0, 1) := by decide +kernel
theorem d_Model_putPart_9 : decode (mC m_Model_putPart) 9 = .ok (.lconst 0, 1) := by decide +kernel
theorem d_Model_putPart_10 : decode (mC m_Model_putPart) 10 = .ok (.iconst 4, 1) := by decide +kernel
theorem d_Model_putPart_11 : decode (mC m_Model_putPart) 11 = .ok (.invokevirtual 295, 3) := by decide +kernel
theorem d_Model_putPart_14 : decode (mC m_Model_putPart) 14 = .ok (.aload_n 0, 1) := by decide +kernel
theorem d_Model_putPart_15 : decode (mC m_Model_putPart) 15 = .ok (.iload_n 1, 1) := by decide +kernel
theorem d_Model_putPart_16 : decode (mC m_Model_putPart) 16 = .ok (.iload_n 2, 1) := by decide +kernel
theorem d_Model_putPart_17 : decode (mC m_Model_putPart) 17 = .ok (.iload_n 3, 1) := by decide +kernel
theorem d_Model_putPart_18 : decode (mC m_Model_putPart) 18 = .ok (.iload 4, 2) := by decide +kernel
theorem d_Model_putPart_20 : decode (mC m_Model_putPart) 20 = .ok (.iconst 0, 1) := by decide +kernel
theorem d_Model_putPart_21 : decode (mC m_Model_putPart) 21 = .ok (.invokevirtual 318, 3) := by decide +kernel
theorem d_Model_putPart_24 : decode (mC m_Model_putPart) 24 = .ok (.aload_n 0, 1) := by decide +kernel
theorem d_Model_putPart_25 : decode (mC m_Model_putPart) 25 = .ok (.iload 4, 2) := by decide +kernel
theorem d_Model_putPart_27 : decode (mC m_Model_putPart) 27 = .ok (.ifCond .eq 9, 3) := by decide +kernel
theorem d_Model_putPart_30 : decode (mC m_Model_putPart) 30 = .ok (.ldc2_w 330, 3) := by decide +kernel
theorem d_Model_putPart_33 : decode (mC m_Model_putPart) 33 = .ok (.goto 4, 3) := by decide +kernel
theorem d_Model_putPart_36 : decode (mC m_Model_putPart) 36 = .ok (.lconst 0, 1) := by decide +kernel
theorem d_Model_putPart_37 : decode (mC m_Model_putPart) 37 = .ok (.iconst 2, 1) := by decide +kernel
theorem d_Model_putPart_38 : decode (mC m_Model_putPart) 38 = .ok (.invokevirtual 295, 3) := by decide +kernel
theorem d_Model_putPart_41 : decode (mC m_Model_putPart) 41 = .ok (.aload_n 0, 1) := by decide +kernel
theorem d_Model_putPart_42 : decode (mC m_Model_putPart) 42 = .ok (.lconst 0, 1) := by decide +kernel
theorem d_Model_putPart_43 : decode (mC m_Model_putPart) 43 = .ok (.bipush 10, 2) := by decide +kernel
theorem d_Model_putPart_45 : decode (mC m_Model_putPart) 45 = .ok (.invokevirtual 295, 3) := by decide +kernel
theorem d_Model_putPart_48 : decode (mC m_Model_putPart) 48 = .ok (.aload_n 0, 1) := by decide +kernel
theorem d_Model_putPart_49 : decode (mC m_Model_putPart) 49 = .ok (.iload 4, 2) := by decide +kernel
theorem d_Model_putPart_51 : decode (mC m_Model_putPart) 51 = .ok (.ifCond .eq 9, 3) := by decide +kernel
theorem d_Model_putPart_54 : decode (mC m_Model_putPart) 54 = .ok (.ldc2_w 228, 3) := by decide +kernel
theorem d_Model_putPart_57 : decode (mC m_Model_putPart) 57 = .ok (.goto 8, 3) := by decide +kernel
theorem d_Model_putPart_60 : decode (mC m_Model_putPart) 60 = .ok (.aload_n 0, 1) := by decide +kernel
theorem d_Model_putPart_61 : decode (mC m_Model_putPart) 61 = .ok (.getfield 208, 3) := by decide +kernel
theorem d_Model_putPart_64 : decode (mC m_Model_putPart) 64 = .ok (.i2l, 1) := by decide +kernel
theorem d_Model_putPart_65 : decode (mC m_Model_putPart) 65 = .ok (.iconst 4, 1) := by decide +kernel
theorem d_Model_putPart_66 : decode (mC m_Model_putPart) 66 = .ok (.invokevirtual 295, 3) := by decide +kernel
theorem d_Model_putPart_69 : decode (mC m_Model_putPart) 69 = .ok (.aload_n 0, 1) := by decide +kernel
theorem d_Model_putPart_70 : decode (mC m_Model_putPart) 70 = .ok (.iload_n 1, 1) := by decide +kernel
theorem d_Model_putPart_71 : decode (mC m_Model_putPart) 71 = .ok (.invokevirtual 324, 3) := by decide +kernel
theorem d_Model_putPart_74 : decode (mC m_Model_putPart) 74 = .ok (.iload 4, 2) := by decide +kernel
theorem d_Model_putPart_76 : decode (mC m_Model_putPart) 76 = .ok (.ifCond .eq 20, 3) := by decide +kernel
theorem d_Model_putPart_79 : decode (mC m_Model_putPart) 79 = .ok (.aload_n 0, 1) := by decide +kernel
theorem d_Model_putPart_80 : decode (mC m_Model_putPart) 80 = .ok (.bipush 24, 2) := by decide +kernel
theorem d_Model_putPart_82 : decode (mC m_Model_putPart) 82 = .ok (.invokevirtual 327, 3) := by decide +kernel
theorem d_Model_putPart_85 : decode (mC m_Model_putPart) 85 = .ok (.aload_n 0, 1) := by decide +kernel
theorem d_Model_putPart_86 : decode (mC m_Model_putPart) 86 = .ok (.aload_n 0, 1) := by decide +kernel
theorem d_Model_putPart_87 : decode (mC m_Model_putPart) 87 = .ok (.getfield 208, 3) := by decide +kernel
theorem d_Model_putPart_90 : decode (mC m_Model_putPart) 90 = .ok (.i2l, 1) := by decide +kernel
theorem d_Model_putPart_91 : decode (mC m_Model_putPart) 91 = .ok (.bipush 8, 2) := by decide +kernel
theorem d_Model_putPart_93 : decode (mC m_Model_putPart) 93 = .ok (.invokevirtual 295, 3) := by decide +kernel
theorem d_Model_putPart_96 : decode (mC m_Model_putPart) 96 = .ok (.return_, 1) := by decide +kernel
def b_Model_putPart_65 (F : Nat) (v0 : Nat) (v1 : Int32) (v4 : Int32) (s0 : Nat) (s1 : Int64) (w : zW) : Option (Unit × zW) := (zobj w s0 9).bind fun _ => (f_Model_lay F s0 s1 (4 : Int32) w).bind fun r66 => (zobj r66.2 v0 9).bind fun _ => (f_Model_putName F v0 v1 r66.2).bind fun r71 => if v4 = 0 then (some ((), r71.2)) else ((zobj r71.2 v0 9).bind fun _ => (f_Model_putRecord F v0 (24 : Int32) r71.2).bind fun r82 => (getI r82.2 v0 9 18).bind fun x87 => (zobj r82.2 v0 9).bind fun _ => (f_Model_lay F v0 x87.toInt64 (8 : Int32) r82.2).bind fun r93 => some ((), r93.2))
set_option maxRecDepth 100000 in
set_option maxHeartbeats 4000000 in
theorem b_Model_putPart_65_ok (G : zG) (F : Nat) (v0 : Nat) (v1 : Int32) (v4 : Int32) (s0 : Nat) (s1 : Int64) (w : zW) (r : (Unit × zW)) (h : b_Model_putPart_65 F v0 v1 v4 s0 s1 w = some r) : zV G m_Model_putPart 65 [(0, .ref (z0 G + v0)), (1, .int v1), (4, .int v4)] [.long s1, .ref (z0 G + s0)] w 0 0 (oV r.1) r.2 := by
  unfold b_Model_putPart_65 at h
  refine V_iconst (v := 4) d_Model_putPart_65 (by decide) ?_
  obtain ⟨_, eo66, h⟩ := ob h
  obtain ⟨r66, e66, h⟩ := ob h
  refine V_call (v := none) (st := []) (inv_V (N := m_Model_lay) (As := [.long s1, .int (4 : Int32)]) (ci := 9) d_Model_putPart_66 eo66 rfl k1239 k1241 sel_Model_lay kc_Model_lay y_Model_lay) ⟨Or.inl kc_Model_lay, k10, by decide, by decide⟩ (Nat.le_of_ble_eq_true rfl) (by decide) (by decide) (c_Model_lay G F s0 s1 (4 : Int32) w r66 e66) ?_
  refine V_aload_n (i := 0) d_Model_putPart_69 rfl 0 rfl ?_
  refine V_iload_n (i := 1) d_Model_putPart_70 rfl 1 rfl ?_
  obtain ⟨_, eo71, h⟩ := ob h
  obtain ⟨r71, e71, h⟩ := ob h
  refine V_call (v := none) (st := []) (inv_V (N := m_Model_putName) (As := [.int v1]) (ci := 9) d_Model_putPart_71 eo71 rfl k1287 k1289 sel_Model_putName kc_Model_putName y_Model_putName) ⟨Or.inl kc_Model_putName, k10, by decide, by decide⟩ (Nat.le_of_ble_eq_true rfl) (by decide) (by decide) (c_Model_putName G F v0 v1 r66.2 r71 e71) ?_
  refine V_iload (i := 4) d_Model_putPart_74 2 rfl ?_
  refine V_if_eq (tgt := 96) d_Model_putPart_76 (by decide) (fun c76 => ?_) (fun c76 => ?_)
  · rw [if_pos c76] at h
    obtain rfl := Option.some.inj h
    exact V_vret rfl (by decide) (by decide) d_Model_putPart_96
  · rw [if_neg c76] at h
    refine V_aload_n (i := 0) d_Model_putPart_79 rfl 0 rfl ?_
    refine V_bipush (v := 24) d_Model_putPart_80 (by decide) ?_
    obtain ⟨_, eo82, h⟩ := ob h
    obtain ⟨r82, e82, h⟩ := ob h
    refine V_call (v := none) (st := []) (inv_V (N := m_Model_putRecord) (As := [.int (24 : Int32)]) (ci := 9) d_Model_putPart_82 eo82 rfl k1291 k1293 sel_Model_putRecord kc_Model_putRecord y_Model_putRecord) ⟨Or.inl kc_Model_putRecord, k10, by decide, by decide⟩ (Nat.le_of_ble_eq_true rfl) (by decide) (by decide) (c_Model_putRecord G F v0 (24 : Int32) r71.2 r82 e82) ?_
    refine V_aload_n (i := 0) d_Model_putPart_85 rfl 0 rfl ?_
    refine V_aload_n (i := 0) d_Model_putPart_86 rfl 0 rfl ?_
    obtain ⟨x87, e87, h⟩ := ob h
    refine V_getI (ci := 9) (k := 18) d_Model_putPart_87 e87 rfl (by decide) in_Model k900 ?_
    refine V_i2l d_Model_putPart_90 ?_
    refine V_bipush (v := 8) d_Model_putPart_91 (by decide) ?_
    obtain ⟨_, eo93, h⟩ := ob h
    obtain ⟨r93, e93, h⟩ := ob h
    refine V_call (v := none) (st := []) (inv_V (N := m_Model_lay) (As := [.long x87.toInt64, .int (8 : Int32)]) (ci := 9) d_Model_putPart_93 eo93 rfl k1239 k1241 sel_Model_lay kc_Model_lay y_Model_lay) ⟨Or.inl kc_Model_lay, k10, by decide, by decide⟩ (Nat.le_of_ble_eq_true rfl) (by decide) (by decide) (c_Model_lay G F v0 x87.toInt64 (8 : Int32) r82.2 r93 e93) ?_
    obtain rfl := Option.some.inj h
    exact V_vret rfl (by decide) (by decide) d_Model_putPart_96
def b_Model_putPart_37 (F : Nat) (v0 : Nat) (v1 : Int32) (v4 : Int32) (s0 : Nat) (s1 : Int64) (w : zW) : Option (Unit × zW) := (zobj w s0 9).bind fun _ => (f_Model_lay F s0 s1 (2 : Int32) w).bind fun r38 => (zobj r38.2 v0 9).bind fun _ => (f_Model_lay F v0 (0 : Int64) (10 : Int32) r38.2).bind fun r45 => if v4 = 0 then ((getI r45.2 v0 9 18).bind fun x61 => b_Model_putPart_65 F v0 v1 v4 v0 x61.toInt64 r45.2) else (b_Model_putPart_65 F v0 v1 v4 v0 (-1 : Int64) r45.2)
set_option maxRecDepth 100000 in
set_option maxHeartbeats 4000000 in
theorem b_Model_putPart_37_ok (G : zG) (F : Nat) (v0 : Nat) (v1 : Int32) (v4 : Int32) (s0 : Nat) (s1 : Int64) (w : zW) (r : (Unit × zW)) (h : b_Model_putPart_37 F v0 v1 v4 s0 s1 w = some r) : zV G m_Model_putPart 37 [(0, .ref (z0 G + v0)), (1, .int v1), (4, .int v4)] [.long s1, .ref (z0 G + s0)] w 0 0 (oV r.1) r.2 := by
  unfold b_Model_putPart_37 at h
  refine V_iconst (v := 2) d_Model_putPart_37 (by decide) ?_
  obtain ⟨_, eo38, h⟩ := ob h
  obtain ⟨r38, e38, h⟩ := ob h
  refine V_call (v := none) (st := []) (inv_V (N := m_Model_lay) (As := [.long s1, .int (2 : Int32)]) (ci := 9) d_Model_putPart_38 eo38 rfl k1239 k1241 sel_Model_lay kc_Model_lay y_Model_lay) ⟨Or.inl kc_Model_lay, k10, by decide, by decide⟩ (Nat.le_of_ble_eq_true rfl) (by decide) (by decide) (c_Model_lay G F s0 s1 (2 : Int32) w r38 e38) ?_
  refine V_aload_n (i := 0) d_Model_putPart_41 rfl 0 rfl ?_
  refine V_lconst (v := 0) d_Model_putPart_42 (by decide) ?_
  refine V_bipush (v := 10) d_Model_putPart_43 (by decide) ?_
  obtain ⟨_, eo45, h⟩ := ob h
  obtain ⟨r45, e45, h⟩ := ob h
  refine V_call (v := none) (st := []) (inv_V (N := m_Model_lay) (As := [.long (0 : Int64), .int (10 : Int32)]) (ci := 9) d_Model_putPart_45 eo45 rfl k1239 k1241 sel_Model_lay kc_Model_lay y_Model_lay) ⟨Or.inl kc_Model_lay, k10, by decide, by decide⟩ (Nat.le_of_ble_eq_true rfl) (by decide) (by decide) (c_Model_lay G F v0 (0 : Int64) (10 : Int32) r38.2 r45 e45) ?_
  refine V_aload_n (i := 0) d_Model_putPart_48 rfl 0 rfl ?_
  refine V_iload (i := 4) d_Model_putPart_49 2 rfl ?_
  refine V_if_eq (tgt := 60) d_Model_putPart_51 (by decide) (fun c51 => ?_) (fun c51 => ?_)
  · rw [if_pos c51] at h
    refine V_aload_n (i := 0) d_Model_putPart_60 rfl 0 rfl ?_
    obtain ⟨x61, e61, h⟩ := ob h
    refine V_getI (ci := 9) (k := 18) d_Model_putPart_61 e61 rfl (by decide) in_Model k900 ?_
    refine V_i2l d_Model_putPart_64 ?_
    exact b_Model_putPart_65_ok G F v0 v1 v4 v0 x61.toInt64 r45.2 _ h
  · rw [if_neg c51] at h
    refine V_ldc2 (v := -1) d_Model_putPart_54 k1184 ?_
    refine V_goto (tgt := 65) d_Model_putPart_57 (by decide) ?_
    exact b_Model_putPart_65_ok G F v0 v1 v4 v0 (-1 : Int64) r45.2 _ h
def b_Model_putPart_0 (F : Nat) (v0 : Nat) (v1 : Int32) (v2 : Int32) (v3 : Int32) (v4 : Int32) (w : zW) : Option (Unit × zW) := (zobj w v0 9).bind fun _ => (f_Model_lay F v0 (33639248 : Int64) (4 : Int32) w).bind fun r5 => (zobj r5.2 v0 9).bind fun _ => (f_Model_lay F v0 (0 : Int64) (4 : Int32) r5.2).bind fun r11 => (zobj r11.2 v0 9).bind fun _ => (f_Model_putNumbers F v0 v1 v2 v3 v4 (0 : Int32) r11.2).bind fun r21 => if v4 = 0 then (b_Model_putPart_37 F v0 v1 v4 v0 (0 : Int64) r21.2) else (b_Model_putPart_37 F v0 v1 v4 v0 (28 : Int64) r21.2)
set_option maxRecDepth 100000 in
set_option maxHeartbeats 4000000 in
theorem b_Model_putPart_0_ok (G : zG) (F : Nat) (v0 : Nat) (v1 : Int32) (v2 : Int32) (v3 : Int32) (v4 : Int32) (w : zW) (r : (Unit × zW)) (h : b_Model_putPart_0 F v0 v1 v2 v3 v4 w = some r) : zV G m_Model_putPart 0 [(0, .ref (z0 G + v0)), (1, .int v1), (2, .int v2), (3, .int v3), (4, .int v4)] [] w 0 0 (oV r.1) r.2 := by
  unfold b_Model_putPart_0 at h
  refine V_aload_n (i := 0) d_Model_putPart_0 rfl 0 rfl ?_
  refine V_ldc2 (v := 33639248) d_Model_putPart_1 k1167 ?_
  refine V_iconst (v := 4) d_Model_putPart_4 (by decide) ?_
  obtain ⟨_, eo5, h⟩ := ob h
  obtain ⟨r5, e5, h⟩ := ob h
  refine V_call (v := none) (st := []) (inv_V (N := m_Model_lay) (As := [.long (33639248 : Int64), .int (4 : Int32)]) (ci := 9) d_Model_putPart_5 eo5 rfl k1239 k1241 sel_Model_lay kc_Model_lay y_Model_lay) ⟨Or.inl kc_Model_lay, k10, by decide, by decide⟩ (Nat.le_of_ble_eq_true rfl) (by decide) (by decide) (c_Model_lay G F v0 (33639248 : Int64) (4 : Int32) w r5 e5) ?_
  refine V_aload_n (i := 0) d_Model_putPart_8 rfl 0 rfl ?_
  refine V_lconst (v := 0) d_Model_putPart_9 (by decide) ?_
  refine V_iconst (v := 4) d_Model_putPart_10 (by decide) ?_
  obtain ⟨_, eo11, h⟩ := ob h
  obtain ⟨r11, e11, h⟩ := ob h
  refine V_call (v := none) (st := []) (inv_V (N := m_Model_lay) (As := [.long (0 : Int64), .int (4 : Int32)]) (ci := 9) d_Model_putPart_11 eo11 rfl k1239 k1241 sel_Model_lay kc_Model_lay y_Model_lay) ⟨Or.inl kc_Model_lay, k10, by decide, by decide⟩ (Nat.le_of_ble_eq_true rfl) (by decide) (by decide) (c_Model_lay G F v0 (0 : Int64) (4 : Int32) r5.2 r11 e11) ?_
  refine V_aload_n (i := 0) d_Model_putPart_14 rfl 0 rfl ?_
  refine V_iload_n (i := 1) d_Model_putPart_15 rfl 1 rfl ?_
  refine V_iload_n (i := 2) d_Model_putPart_16 rfl 2 rfl ?_
  refine V_iload_n (i := 3) d_Model_putPart_17 rfl 3 rfl ?_
  refine V_iload (i := 4) d_Model_putPart_18 4 rfl ?_
  refine V_iconst (v := 0) d_Model_putPart_20 (by decide) ?_
  obtain ⟨_, eo21, h⟩ := ob h
  obtain ⟨r21, e21, h⟩ := ob h
  refine V_call (v := none) (st := []) (inv_V (N := m_Model_putNumbers) (As := [.int v1, .int v2, .int v3, .int v4, .int (0 : Int32)]) (ci := 9) d_Model_putPart_21 eo21 rfl k1282 k1284 sel_Model_putNumbers kc_Model_putNumbers y_Model_putNumbers) ⟨Or.inl kc_Model_putNumbers, k10, by decide, by decide⟩ (Nat.le_of_ble_eq_true rfl) (by decide) (by decide) (c_Model_putNumbers G F v0 v1 v2 v3 v4 (0 : Int32) r11.2 r21 e21) ?_
  refine V_aload_n (i := 0) d_Model_putPart_24 rfl 0 rfl ?_
  refine V_iload (i := 4) d_Model_putPart_25 4 rfl ?_
  refine V_if_eq (tgt := 36) d_Model_putPart_27 (by decide) (fun c27 => ?_) (fun c27 => ?_)
  · rw [if_pos c27] at h
    refine V_lconst (v := 0) d_Model_putPart_36 (by decide) ?_
    refine V_lv [0, 1, 4] rfl ?_
    exact b_Model_putPart_37_ok G F v0 v1 v4 v0 (0 : Int64) r21.2 _ h
  · rw [if_neg c27] at h
    refine V_ldc2 (v := 28) d_Model_putPart_30 k1303 ?_
    refine V_goto (tgt := 37) d_Model_putPart_33 (by decide) ?_
    refine V_lv [0, 1, 4] rfl ?_
    exact b_Model_putPart_37_ok G F v0 v1 v4 v0 (28 : Int64) r21.2 _ h
def f_Model_putPart (F : Nat) (v0 : Nat) (v1 : Int32) (v2 : Int32) (v3 : Int32) (v4 : Int32) (w : zW) : Option (Unit × zW) := b_Model_putPart_0 F v0 v1 v2 v3 v4 w
theorem c_Model_putPart (G : zG) (F : Nat) (v0 : Nat) (v1 : Int32) (v2 : Int32) (v3 : Int32) (v4 : Int32) (w : zW) (r : (Unit × zW)) (h : f_Model_putPart F v0 v1 v2 v3 v4 w = some r) : zCT G m_Model_putPart [.ref (z0 G + v0), .int v1, .int v2, .int v3, .int v4] w (oV r.1) r.2 := zCT.ofV (by decide +kernel) (Or.inl ⟨kc_Model_putPart, rfl⟩) (Nat.le_of_ble_eq_true rfl) (b_Model_putPart_0_ok G F v0 v1 v2 v3 v4 w r h)

/-! ZipArrayModel.putParts(I)V -/
def m_Model_putParts : zM := (⟨R_Model, "putParts", "(I)V"⟩, prog_11_method_75_code, 3, none, [], { frames := 1, cells := 0, slots := 0, locals := 23 })
theorem k1274 : Cond.methodLink R_Model 332 (mY m_Model_putFile) ∈ zTb := tb_at 1274 (by decide +kernel) rfl
theorem k1276 : Cond.instanceMethod (mY m_Model_putFile) ∈ zTb := tb_at 1276 (by decide +kernel) rfl
theorem kc_Model_putParts : Cond.code (mY m_Model_putParts) (mC m_Model_putParts) (mL m_Model_putParts) (mT m_Model_putParts) ∈ zTb := tb_at 1298 (by decide +kernel) rfl
theorem y_Model_putParts : (mY m_Model_putParts).cls ≠ "java/lang/invoke/MethodHandle" ∧ (mY m_Model_putParts).cls ≠ "java/lang/invoke/VarHandle" ∧ (parseMethodDescriptor (mY m_Model_putParts).desc).map (fun d => d.parameters.length) = some 1 := by decide +kernel
theorem sel_Model_putParts : Cond.selects R_Model (mY m_Model_putParts) (mY m_Model_putParts) ∈ zTb := sel_at (y := mY m_Model_putParts) (n := 33) 88 (by decide +kernel)
theorem d_Model_putParts_0 : decode (mC m_Model_putParts) 0 = .ok (.iconst 0, 1) := by decide +kernel
theorem d_Model_putParts_1 : decode (mC m_Model_putParts) 1 = .ok (.istore_n 2, 1) := by decide +kernel
theorem d_Model_putParts_2 : decode (mC m_Model_putParts) 2 = .ok (.iload_n 2, 1) := by decide +kernel
theorem d_Model_putParts_3 : decode (mC m_Model_putParts) 3 = .ok (.aload_n 0, 1) := by decide +kernel
theorem d_Model_putParts_4 : decode (mC m_Model_putParts) 4 = .ok (.getfield 205, 3) := by decide +kernel
theorem d_Model_putParts_7 : decode (mC m_Model_putParts) 7 = .ok (.if_icmp .ge 30, 3) := by decide +kernel
theorem d_Model_putParts_10 : decode (mC m_Model_putParts) 10 = .ok (.iload_n 2, 1) := by decide +kernel
theorem d_Model_putParts_11 : decode (mC m_Model_putParts) 11 = .ok (.iload_n 1, 1) := by decide +kernel
theorem d_Model_putParts_12 : decode (mC m_Model_putParts) 12 = .ok (.if_icmp .eq 19, 3) := by decide +kernel
theorem d_Model_putParts_15 : decode (mC m_Model_putParts) 15 = .ok (.aload_n 0, 1) := by decide +kernel
theorem d_Model_putParts_16 : decode (mC m_Model_putParts) 16 = .ok (.aload_n 0, 1) := by decide +kernel
theorem d_Model_putParts_17 : decode (mC m_Model_putParts) 17 = .ok (.getfield 55, 3) := by decide +kernel
theorem d_Model_putParts_20 : decode (mC m_Model_putParts) 20 = .ok (.iload_n 2, 1) := by decide +kernel
theorem d_Model_putParts_21 : decode (mC m_Model_putParts) 21 = .ok (.iaload, 1) := by decide +kernel
theorem d_Model_putParts_22 : decode (mC m_Model_putParts) 22 = .ok (.aload_n 0, 1) := by decide +kernel
theorem d_Model_putParts_23 : decode (mC m_Model_putParts) 23 = .ok (.getfield 58, 3) := by decide +kernel
theorem d_Model_putParts_26 : decode (mC m_Model_putParts) 26 = .ok (.iload_n 2, 1) := by decide +kernel
theorem d_Model_putParts_27 : decode (mC m_Model_putParts) 27 = .ok (.iaload, 1) := by decide +kernel
theorem d_Model_putParts_28 : decode (mC m_Model_putParts) 28 = .ok (.invokevirtual 332, 3) := by decide +kernel
theorem d_Model_putParts_31 : decode (mC m_Model_putParts) 31 = .ok (.iinc 2 1, 3) := by decide +kernel
theorem d_Model_putParts_34 : decode (mC m_Model_putParts) 34 = .ok (.goto (-32), 3) := by decide +kernel
theorem d_Model_putParts_37 : decode (mC m_Model_putParts) 37 = .ok (.return_, 1) := by decide +kernel
def b_Model_putParts_31 (F : Nat) (K2 : Nat → Int32 → Int32 → zW → Option (Unit × zW)) (v0 : Nat) (v1 : Int32) (v2 : Int32) (w : zW) : Option (Unit × zW) := K2 v0 v1 (v2 + (1 : Int32)) w
set_option maxRecDepth 100000 in
set_option maxHeartbeats 4000000 in
theorem b_Model_putParts_31_ok (G : zG) (F : Nat) (K2 : Nat → Int32 → Int32 → zW → Option (Unit × zW)) (hK2 : ∀ (v0 : Nat) (v1 : Int32) (v2 : Int32) (w : zW) (r : (Unit × zW)), K2 v0 v1 v2 w = some r → zV G m_Model_putParts 2 [(0, .ref (z0 G + v0)), (1, .int v1), (2, .int v2)] [] w 0 0 (oV r.1) r.2) (v0 : Nat) (v1 : Int32) (v2 : Int32) (w : zW) (r : (Unit × zW)) (h : b_Model_putParts_31 F K2 v0 v1 v2 w = some r) : zV G m_Model_putParts 31 [(0, .ref (z0 G + v0)), (1, .int v1), (2, .int v2)] [] w 0 0 (oV r.1) r.2 := by
  unfold b_Model_putParts_31 at h
  refine V_iinc (i := 2) (v := (v2 + (1 : Int32))) d_Model_putParts_31 2 rfl (congrArg (fun y => v2 + y) (by decide : Int32.ofInt (1) = (1 : Int32))) (by decide) rfl ?_
  refine V_goto (tgt := 2) d_Model_putParts_34 (by decide) ?_
  refine V_lv [1, 2, 0] rfl ?_
  exact hK2 v0 v1 (v2 + (1 : Int32)) w _ h
def b_Model_putParts_2 (F : Nat) (K2 : Nat → Int32 → Int32 → zW → Option (Unit × zW)) (v0 : Nat) (v1 : Int32) (v2 : Int32) (w : zW) : Option (Unit × zW) := (getI w v0 9 17).bind fun x4 => if x4 ≤ v2 then (some ((), w)) else (if v2 = v1 then (b_Model_putParts_31 F K2 v0 v1 v2 w) else ((getR w v0 9 27).bind fun x17 => (aget w x17 v2).bind fun x21 => (getR w v0 9 28).bind fun x23 => (aget w x23 v2).bind fun x27 => (zobj w v0 9).bind fun _ => (f_Model_putFile F v0 x21 x27 w).bind fun r28 => b_Model_putParts_31 F K2 v0 v1 v2 r28.2))
set_option maxRecDepth 100000 in
set_option maxHeartbeats 4000000 in
theorem b_Model_putParts_2_ok (G : zG) (F : Nat) (K2 : Nat → Int32 → Int32 → zW → Option (Unit × zW)) (hK2 : ∀ (v0 : Nat) (v1 : Int32) (v2 : Int32) (w : zW) (r : (Unit × zW)), K2 v0 v1 v2 w = some r → zV G m_Model_putParts 2 [(0, .ref (z0 G + v0)), (1, .int v1), (2, .int v2)] [] w 0 0 (oV r.1) r.2) (v0 : Nat) (v1 : Int32) (v2 : Int32) (w : zW) (r : (Unit × zW)) (h : b_Model_putParts_2 F K2 v0 v1 v2 w = some r) : zV G m_Model_putParts 2 [(0, .ref (z0 G + v0)), (1, .int v1), (2, .int v2)] [] w 0 0 (oV r.1) r.2 := by
  unfold b_Model_putParts_2 at h
  refine V_iload_n (i := 2) d_Model_putParts_2 rfl 2 rfl ?_
  refine V_aload_n (i := 0) d_Model_putParts_3 rfl 0 rfl ?_
  obtain ⟨x4, e4, h⟩ := ob h
  refine V_getI (ci := 9) (k := 17) d_Model_putParts_4 e4 rfl (by decide) in_Model k899 ?_
  refine V_icmp_ge (tgt := 37) d_Model_putParts_7 (by decide) (fun c7 => ?_) (fun c7 => ?_)
  · rw [if_pos c7] at h
    obtain rfl := Option.some.inj h
    exact V_vret rfl (by decide) (by decide) d_Model_putParts_37
  · rw [if_neg c7] at h
    refine V_iload_n (i := 2) d_Model_putParts_10 rfl 2 rfl ?_
    refine V_iload_n (i := 1) d_Model_putParts_11 rfl 1 rfl ?_
    refine V_icmp_eq (tgt := 31) d_Model_putParts_12 (by decide) (fun c12 => ?_) (fun c12 => ?_)
    · rw [if_pos c12] at h
      exact b_Model_putParts_31_ok G F K2 hK2 v0 v1 v2 w _ h
    · rw [if_neg c12] at h
      refine V_aload_n (i := 0) d_Model_putParts_15 rfl 0 rfl ?_
      refine V_aload_n (i := 0) d_Model_putParts_16 rfl 0 rfl ?_
      obtain ⟨x17, e17, h⟩ := ob h
      refine V_getR (ci := 9) (k := 27) d_Model_putParts_17 e17 rfl (by decide) in_Model k909 ?_
      refine V_iload_n (i := 2) d_Model_putParts_20 rfl 2 rfl ?_
      obtain ⟨x21, e21, h⟩ := ob h
      refine V_aget d_Model_putParts_21 e21 ?_
      refine V_aload_n (i := 0) d_Model_putParts_22 rfl 0 rfl ?_
      obtain ⟨x23, e23, h⟩ := ob h
      refine V_getR (ci := 9) (k := 28) d_Model_putParts_23 e23 rfl (by decide) in_Model k910 ?_
      refine V_iload_n (i := 2) d_Model_putParts_26 rfl 2 rfl ?_
      obtain ⟨x27, e27, h⟩ := ob h
      refine V_aget d_Model_putParts_27 e27 ?_
      obtain ⟨_, eo28, h⟩ := ob h
      obtain ⟨r28, e28, h⟩ := ob h
      refine V_call (v := none) (st := []) (inv_V (N := m_Model_putFile) (As := [.int x21, .int x27]) (ci := 9) d_Model_putParts_28 eo28 rfl k1274 k1276 sel_Model_putFile kc_Model_putFile y_Model_putFile) ⟨Or.inl kc_Model_putFile, k10, by decide, by decide⟩ (Nat.le_of_ble_eq_true rfl) (by decide) (by decide) (c_Model_putFile G F v0 x21 x27 w r28 e28) ?_
      exact b_Model_putParts_31_ok G F K2 hK2 v0 v1 v2 r28.2 _ h
def l_Model_putParts_2 (F : Nat) : Nat → Nat → Int32 → Int32 → zW → Option (Unit × zW)
  | 0 => fun _ _ _ _ => none
  | n + 1 => b_Model_putParts_2 F (l_Model_putParts_2 F n)
theorem l_Model_putParts_2_ok (G : zG) (F : Nat) (n : Nat) :  ∀ (v0 : Nat) (v1 : Int32) (v2 : Int32) (w : zW) (r : (Unit × zW)), l_Model_putParts_2 F n v0 v1 v2 w = some r → zV G m_Model_putParts 2 [(0, .ref (z0 G + v0)), (1, .int v1), (2, .int v2)] [] w 0 0 (oV r.1) r.2 := by
  induction n with
  | zero => intro v0 v1 v2 w r h; exact nomatch (show (none : Option (Unit × zW)) = some r from h)
  | succ n ih => intro v0 v1 v2 w r h; exact b_Model_putParts_2_ok G F (l_Model_putParts_2 F n) ih v0 v1 v2 w r h
def b_Model_putParts_0 (F : Nat) (v0 : Nat) (v1 : Int32) (w : zW) : Option (Unit × zW) := l_Model_putParts_2 F F v0 v1 (0 : Int32) w
set_option maxRecDepth 100000 in
set_option maxHeartbeats 4000000 in
theorem b_Model_putParts_0_ok (G : zG) (F : Nat) (v0 : Nat) (v1 : Int32) (w : zW) (r : (Unit × zW)) (h : b_Model_putParts_0 F v0 v1 w = some r) : zV G m_Model_putParts 0 [(0, .ref (z0 G + v0)), (1, .int v1)] [] w 0 0 (oV r.1) r.2 := by
  unfold b_Model_putParts_0 at h
  refine V_iconst (v := 0) d_Model_putParts_0 (by decide) ?_
  refine V_istore_n (i := 2) d_Model_putParts_1 rfl (by decide) rfl ?_
  refine V_lv [1, 2, 0] rfl ?_
  exact l_Model_putParts_2_ok G F F v0 v1 (0 : Int32) w _ h
def f_Model_putParts (F : Nat) (v0 : Nat) (v1 : Int32) (w : zW) : Option (Unit × zW) := b_Model_putParts_0 F v0 v1 w
theorem c_Model_putParts (G : zG) (F : Nat) (v0 : Nat) (v1 : Int32) (w : zW) (r : (Unit × zW)) (h : f_Model_putParts F v0 v1 w = some r) : zCT G m_Model_putParts [.ref (z0 G + v0), .int v1] w (oV r.1) r.2 := zCT.ofV (by decide +kernel) (Or.inl ⟨kc_Model_putParts, rfl⟩) (Nat.le_of_ble_eq_true rfl) (b_Model_putParts_0_ok G F v0 v1 w r h)

/-! ZipArrayModel.restBut(I)I -/
def m_Model_restBut : zM := (⟨R_Model, "restBut", "(I)I"⟩, prog_11_method_76_code, 3, (some .int), [], { frames := 0, cells := 0, slots := 0, locals := 0 })
theorem kc_Model_restBut : Cond.code (mY m_Model_restBut) (mC m_Model_restBut) (mL m_Model_restBut) (mT m_Model_restBut) ∈ zTb := tb_at 1273 (by decide +kernel) rfl
theorem y_Model_restBut : (mY m_Model_restBut).cls ≠ "java/lang/invoke/MethodHandle" ∧ (mY m_Model_restBut).cls ≠ "java/lang/invoke/VarHandle" ∧ (parseMethodDescriptor (mY m_Model_restBut).desc).map (fun d => d.parameters.length) = some 1 := by decide +kernel
theorem sel_Model_restBut : Cond.selects R_Model (mY m_Model_restBut) (mY m_Model_restBut) ∈ zTb := sel_at (y := mY m_Model_restBut) (n := 33) 82 (by decide +kernel)
theorem d_Model_restBut_0 : decode (mC m_Model_restBut) 0 = .ok (.iload_n 1, 1) := by decide +kernel
theorem d_Model_restBut_1 : decode (mC m_Model_restBut) 1 = .ok (.ifCond .ge 7, 3) := by decide +kernel
theorem d_Model_restBut_4 : decode (mC m_Model_restBut) 4 = .ok (.iconst 0, 1) := by decide +kernel
theorem d_Model_restBut_5 : decode (mC m_Model_restBut) 5 = .ok (.goto 16, 3) := by decide +kernel
theorem d_Model_restBut_8 : decode (mC m_Model_restBut) 8 = .ok (.aload_n 0, 1) := by decide +kernel
theorem d_Model_restBut_9 : decode (mC m_Model_restBut) 9 = .ok (.getfield 58, 3) := by decide +kernel
theorem d_Model_restBut_12 : decode (mC m_Model_restBut) 12 = .ok (.iload_n 1, 1) := by decide +kernel
theorem d_Model_restBut_13 : decode (mC m_Model_restBut) 13 = .ok (.iaload, 1) := by decide +kernel
theorem d_Model_restBut_14 : decode (mC m_Model_restBut) 14 = .ok (.aload_n 0, 1) := by decide +kernel
theorem d_Model_restBut_15 : decode (mC m_Model_restBut) 15 = .ok (.getfield 55, 3) := by decide +kernel
theorem d_Model_restBut_18 : decode (mC m_Model_restBut) 18 = .ok (.iload_n 1, 1) := by decide +kernel
theorem d_Model_restBut_19 : decode (mC m_Model_restBut) 19 = .ok (.iaload, 1) := by decide +kernel
theorem d_Model_restBut_20 : decode (mC m_Model_restBut) 20 = .ok (.isub, 1) := by decide +kernel
theorem d_Model_restBut_21 : decode (mC m_Model_restBut) 21 = .ok (.istore_n 2, 1) := by decide +kernel
theorem d_Model_restBut_22 : decode (mC m_Model_restBut) 22 = .ok (.aload_n 0, 1) := by decide +kernel
theorem d_Model_restBut_23 : decode (mC m_Model_restBut) 23 = .ok (.getfield 202, 3) := by decide +kernel
theorem d_Model_restBut_26 : decode (mC m_Model_restBut) 26 = .ok (.aload_n 0, 1) := by decide +kernel
theorem d_Model_restBut_27 : decode (mC m_Model_restBut) 27 = .ok (.getfield 208, 3) := by decide +kernel
theorem d_Model_restBut_30 : decode (mC m_Model_restBut) 30 = .ok (.isub, 1) := by decide +kernel
theorem d_Model_restBut_31 : decode (mC m_Model_restBut) 31 = .ok (.iload_n 2, 1) := by decide +kernel
theorem d_Model_restBut_32 : decode (mC m_Model_restBut) 32 = .ok (.isub, 1) := by decide +kernel
theorem d_Model_restBut_33 : decode (mC m_Model_restBut) 33 = .ok (.aload_n 0, 1) := by decide +kernel
theorem d_Model_restBut_34 : decode (mC m_Model_restBut) 34 = .ok (.getfield 292, 3) := by decide +kernel
theorem d_Model_restBut_37 : decode (mC m_Model_restBut) 37 = .ok (.ifCond .eq 8, 3) := by decide +kernel
theorem d_Model_restBut_40 : decode (mC m_Model_restBut) 40 = .ok (.bipush 98, 2) := by decide +kernel
theorem d_Model_restBut_42 : decode (mC m_Model_restBut) 42 = .ok (.goto 5, 3) := by decide +kernel
theorem d_Model_restBut_45 : decode (mC m_Model_restBut) 45 = .ok (.bipush 22, 2) := by decide +kernel
theorem d_Model_restBut_47 : decode (mC m_Model_restBut) 47 = .ok (.iadd, 1) := by decide +kernel
theorem d_Model_restBut_48 : decode (mC m_Model_restBut) 48 = .ok (.aload_n 0, 1) := by decide +kernel
theorem d_Model_restBut_49 : decode (mC m_Model_restBut) 49 = .ok (.getfield 194, 3) := by decide +kernel
theorem d_Model_restBut_52 : decode (mC m_Model_restBut) 52 = .ok (.iadd, 1) := by decide +kernel
theorem d_Model_restBut_53 : decode (mC m_Model_restBut) 53 = .ok (.aload_n 0, 1) := by decide +kernel
theorem d_Model_restBut_54 : decode (mC m_Model_restBut) 54 = .ok (.getfield 211, 3) := by decide +kernel
theorem d_Model_restBut_57 : decode (mC m_Model_restBut) 57 = .ok (.isub, 1) := by decide +kernel
theorem d_Model_restBut_58 : decode (mC m_Model_restBut) 58 = .ok (.bipush 22, 2) := by decide +kernel
theorem d_Model_restBut_60 : decode (mC m_Model_restBut) 60 = .ok (.isub, 1) := by decide +kernel
theorem d_Model_restBut_61 : decode (mC m_Model_restBut) 61 = .ok (.ireturn, 1) := by decide +kernel
def b_Model_restBut_47 (F : Nat) (v0 : Nat) (s0 : Int32) (s1 : Int32) (w : zW) : Option (Int32 × zW) := (getI w v0 9 3).bind fun x49 => (getI w v0 9 16).bind fun x54 => some (((((s0 + s1) + x49) - x54) - (22 : Int32)), w)
set_option maxRecDepth 100000 in
set_option maxHeartbeats 4000000 in
theorem b_Model_restBut_47_ok (G : zG) (F : Nat) (v0 : Nat) (s0 : Int32) (s1 : Int32) (w : zW) (r : (Int32 × zW)) (h : b_Model_restBut_47 F v0 s0 s1 w = some r) : zV G m_Model_restBut 47 [(0, .ref (z0 G + v0))] [.int s1, .int s0] w 0 0 (oI r.1) r.2 := by
  unfold b_Model_restBut_47 at h
  refine V_iadd d_Model_restBut_47 ?_
  refine V_aload_n (i := 0) d_Model_restBut_48 rfl 0 rfl ?_
  obtain ⟨x49, e49, h⟩ := ob h
  refine V_getI (ci := 9) (k := 3) d_Model_restBut_49 e49 rfl (by decide) in_Model k885 ?_
  refine V_iadd d_Model_restBut_52 ?_
  refine V_aload_n (i := 0) d_Model_restBut_53 rfl 0 rfl ?_
  obtain ⟨x54, e54, h⟩ := ob h
  refine V_getI (ci := 9) (k := 16) d_Model_restBut_54 e54 rfl (by decide) in_Model k898 ?_
  refine V_isub d_Model_restBut_57 ?_
  refine V_bipush (v := 22) d_Model_restBut_58 (by decide) ?_
  refine V_isub d_Model_restBut_60 ?_
  obtain rfl := Option.some.inj h
  exact V_iret rfl (by decide) (by decide) d_Model_restBut_61
def b_Model_restBut_21 (F : Nat) (v0 : Nat) (s0 : Int32) (w : zW) : Option (Int32 × zW) := (getI w v0 9 19).bind fun x23 => (getI w v0 9 18).bind fun x27 => (getI w v0 9 5).bind fun x34 => if x34 = 0 then (b_Model_restBut_47 F v0 ((x23 - x27) - s0) (22 : Int32) w) else (b_Model_restBut_47 F v0 ((x23 - x27) - s0) (98 : Int32) w)
set_option maxRecDepth 100000 in
set_option maxHeartbeats 4000000 in
theorem b_Model_restBut_21_ok (G : zG) (F : Nat) (v0 : Nat) (s0 : Int32) (w : zW) (r : (Int32 × zW)) (h : b_Model_restBut_21 F v0 s0 w = some r) : zV G m_Model_restBut 21 [(0, .ref (z0 G + v0))] [.int s0] w 0 0 (oI r.1) r.2 := by
  unfold b_Model_restBut_21 at h
  refine V_istore_n (i := 2) d_Model_restBut_21 rfl (by decide) rfl ?_
  refine V_aload_n (i := 0) d_Model_restBut_22 rfl 1 rfl ?_
  obtain ⟨x23, e23, h⟩ := ob h
  refine V_getI (ci := 9) (k := 19) d_Model_restBut_23 e23 rfl (by decide) in_Model k901 ?_
  refine V_aload_n (i := 0) d_Model_restBut_26 rfl 1 rfl ?_
  obtain ⟨x27, e27, h⟩ := ob h
  refine V_getI (ci := 9) (k := 18) d_Model_restBut_27 e27 rfl (by decide) in_Model k900 ?_
  refine V_isub d_Model_restBut_30 ?_
  refine V_iload_n (i := 2) d_Model_restBut_31 rfl 0 rfl ?_
  refine V_isub d_Model_restBut_32 ?_
  refine V_aload_n (i := 0) d_Model_restBut_33 rfl 1 rfl ?_
  obtain ⟨x34, e34, h⟩ := ob h
  refine V_getI (ci := 9) (k := 5) d_Model_restBut_34 e34 rfl (by decide) in_Model k887 ?_
  refine V_if_eq (tgt := 45) d_Model_restBut_37 (by decide) (fun c37 => ?_) (fun c37 => ?_)
  · rw [if_pos c37] at h
    refine V_bipush (v := 22) d_Model_restBut_45 (by decide) ?_
    refine V_lv [1] rfl ?_
    exact b_Model_restBut_47_ok G F v0 ((x23 - x27) - s0) (22 : Int32) w _ h
  · rw [if_neg c37] at h
    refine V_bipush (v := 98) d_Model_restBut_40 (by decide) ?_
    refine V_goto (tgt := 47) d_Model_restBut_42 (by decide) ?_
    refine V_lv [1] rfl ?_
    exact b_Model_restBut_47_ok G F v0 ((x23 - x27) - s0) (98 : Int32) w _ h
def b_Model_restBut_0 (F : Nat) (v0 : Nat) (v1 : Int32) (w : zW) : Option (Int32 × zW) := if 0 ≤ v1 then ((getR w v0 9 28).bind fun x9 => (aget w x9 v1).bind fun x13 => (getR w v0 9 27).bind fun x15 => (aget w x15 v1).bind fun x19 => b_Model_restBut_21 F v0 (x13 - x19) w) else (b_Model_restBut_21 F v0 (0 : Int32) w)
set_option maxRecDepth 100000 in
set_option maxHeartbeats 4000000 in
theorem b_Model_restBut_0_ok (G : zG) (F : Nat) (v0 : Nat) (v1 : Int32) (w : zW) (r : (Int32 × zW)) (h : b_Model_restBut_0 F v0 v1 w = some r) : zV G m_Model_restBut 0 [(0, .ref (z0 G + v0)), (1, .int v1)] [] w 0 0 (oI r.1) r.2 := by
  unfold b_Model_restBut_0 at h
  refine V_iload_n (i := 1) d_Model_restBut_0 rfl 1 rfl ?_
  refine V_if_ge (tgt := 8) d_Model_restBut_1 (by decide) (fun c1 => ?_) (fun c1 => ?_)
  · rw [if_pos c1] at h
    refine V_aload_n (i := 0) d_Model_restBut_8 rfl 0 rfl ?_
    obtain ⟨x9, e9, h⟩ := ob h
    refine V_getR (ci := 9) (k := 28) d_Model_restBut_9 e9 rfl (by decide) in_Model k910 ?_
    refine V_iload_n (i := 1) d_Model_restBut_12 rfl 1 rfl ?_
    obtain ⟨x13, e13, h⟩ := ob h
    refine V_aget d_Model_restBut_13 e13 ?_
    refine V_aload_n (i := 0) d_Model_restBut_14 rfl 0 rfl ?_
    obtain ⟨x15, e15, h⟩ := ob h
    refine V_getR (ci := 9) (k := 27) d_Model_restBut_15 e15 rfl (by decide) in_Model k909 ?_
    refine V_iload_n (i := 1) d_Model_restBut_18 rfl 1 rfl ?_
    obtain ⟨x19, e19, h⟩ := ob h
    refine V_aget d_Model_restBut_19 e19 ?_
    refine V_isub d_Model_restBut_20 ?_
    refine V_lv [0] rfl ?_
    exact b_Model_restBut_21_ok G F v0 (x13 - x19) w _ h
  · rw [if_neg c1] at h
    refine V_iconst (v := 0) d_Model_restBut_4 (by decide) ?_
    refine V_goto (tgt := 21) d_Model_restBut_5 (by decide) ?_
    refine V_lv [0] rfl ?_
    exact b_Model_restBut_21_ok G F v0 (0 : Int32) w _ h
def f_Model_restBut (F : Nat) (v0 : Nat) (v1 : Int32) (w : zW) : Option (Int32 × zW) := b_Model_restBut_0 F v0 v1 w
theorem c_Model_restBut (G : zG) (F : Nat) (v0 : Nat) (v1 : Int32) (w : zW) (r : (Int32 × zW)) (h : f_Model_restBut F v0 v1 w = some r) : zCT G m_Model_restBut [.ref (z0 G + v0), .int v1] w (oI r.1) r.2 := zCT.ofV (by decide +kernel) (Or.inl ⟨kc_Model_restBut, rfl⟩) (Nat.le_of_ble_eq_true rfl) (b_Model_restBut_0_ok G F v0 v1 w r h)

/-! ZipArrayModel.storeBuffer()V -/
def m_Model_storeBuffer : zM := (⟨R_Model, "storeBuffer", "()V"⟩, prog_11_method_77_code, 2, none, [], { frames := 0, cells := 0, slots := 0, locals := 0 })
theorem kc_Model_storeBuffer : Cond.code (mY m_Model_storeBuffer) (mC m_Model_storeBuffer) (mL m_Model_storeBuffer) (mT m_Model_storeBuffer) ∈ zTb := tb_at 1269 (by decide +kernel) rfl
theorem y_Model_storeBuffer : (mY m_Model_storeBuffer).cls ≠ "java/lang/invoke/MethodHandle" ∧ (mY m_Model_storeBuffer).cls ≠ "java/lang/invoke/VarHandle" ∧ (parseMethodDescriptor (mY m_Model_storeBuffer).desc).map (fun d => d.parameters.length) = some 0 := by decide +kernel
theorem sel_Model_storeBuffer : Cond.selects R_Model (mY m_Model_storeBuffer) (mY m_Model_storeBuffer) ∈ zTb := sel_at (y := mY m_Model_storeBuffer) (n := 33) 81 (by decide +kernel)
theorem d_Model_storeBuffer_0 : decode (mC m_Model_storeBuffer) 0 = .ok (.aload_n 0, 1) := by decide +kernel
theorem d_Model_storeBuffer_1 : decode (mC m_Model_storeBuffer) 1 = .ok (.aload_n 0, 1) := by decide +kernel
theorem d_Model_storeBuffer_2 : decode (mC m_Model_storeBuffer) 2 = .ok (.getfield 82, 3) := by decide +kernel
theorem d_Model_storeBuffer_5 : decode (mC m_Model_storeBuffer) 5 = .ok (.putfield 75, 3) := by decide +kernel
theorem d_Model_storeBuffer_8 : decode (mC m_Model_storeBuffer) 8 = .ok (.iconst 0, 1) := by decide +kernel
theorem d_Model_storeBuffer_9 : decode (mC m_Model_storeBuffer) 9 = .ok (.istore_n 1, 1) := by decide +kernel
theorem d_Model_storeBuffer_10 : decode (mC m_Model_storeBuffer) 10 = .ok (.iload_n 1, 1) := by decide +kernel
theorem d_Model_storeBuffer_11 : decode (mC m_Model_storeBuffer) 11 = .ok (.aload_n 0, 1) := by decide +kernel
theorem d_Model_storeBuffer_12 : decode (mC m_Model_storeBuffer) 12 = .ok (.getfield 82, 3) := by decide +kernel
theorem d_Model_storeBuffer_15 : decode (mC m_Model_storeBuffer) 15 = .ok (.if_icmp .ge 21, 3) := by decide +kernel
theorem d_Model_storeBuffer_18 : decode (mC m_Model_storeBuffer) 18 = .ok (.aload_n 0, 1) := by decide +kernel
theorem d_Model_storeBuffer_19 : decode (mC m_Model_storeBuffer) 19 = .ok (.getfield 16, 3) := by decide +kernel
theorem d_Model_storeBuffer_22 : decode (mC m_Model_storeBuffer) 22 = .ok (.iload_n 1, 1) := by decide +kernel
theorem d_Model_storeBuffer_23 : decode (mC m_Model_storeBuffer) 23 = .ok (.aload_n 0, 1) := by decide +kernel
theorem d_Model_storeBuffer_24 : decode (mC m_Model_storeBuffer) 24 = .ok (.getfield 7, 3) := by decide +kernel
theorem d_Model_storeBuffer_27 : decode (mC m_Model_storeBuffer) 27 = .ok (.iload_n 1, 1) := by decide +kernel
theorem d_Model_storeBuffer_28 : decode (mC m_Model_storeBuffer) 28 = .ok (.iaload, 1) := by decide +kernel
theorem d_Model_storeBuffer_29 : decode (mC m_Model_storeBuffer) 29 = .ok (.iastore, 1) := by decide +kernel
theorem d_Model_storeBuffer_30 : decode (mC m_Model_storeBuffer) 30 = .ok (.iinc 1 1, 3) := by decide +kernel
theorem d_Model_storeBuffer_33 : decode (mC m_Model_storeBuffer) 33 = .ok (.goto (-23), 3) := by decide +kernel
theorem d_Model_storeBuffer_36 : decode (mC m_Model_storeBuffer) 36 = .ok (.return_, 1) := by decide +kernel
def b_Model_storeBuffer_10 (F : Nat) (K10 : Nat → Int32 → zW → Option (Unit × zW)) (v0 : Nat) (v1 : Int32) (w : zW) : Option (Unit × zW) := (getI w v0 9 1).bind fun x12 => if x12 ≤ v1 then (some ((), w)) else ((getR w v0 9 7).bind fun x19 => (getR w v0 9 2).bind fun x24 => (aget w x24 v1).bind fun x28 => (aset w x19 v1 x28).bind fun w29 => K10 v0 (v1 + (1 : Int32)) w29)
set_option maxRecDepth 100000 in
set_option maxHeartbeats 4000000 in
theorem b_Model_storeBuffer_10_ok (G : zG) (F : Nat) (K10 : Nat → Int32 → zW → Option (Unit × zW)) (hK10 : ∀ (v0 : Nat) (v1 : Int32) (w : zW) (r : (Unit × zW)), K10 v0 v1 w = some r → zV G m_Model_storeBuffer 10 [(0, .ref (z0 G + v0)), (1, .int v1)] [] w 0 0 (oV r.1) r.2) (v0 : Nat) (v1 : Int32) (w : zW) (r : (Unit × zW)) (h : b_Model_storeBuffer_10 F K10 v0 v1 w = some r) : zV G m_Model_storeBuffer 10 [(0, .ref (z0 G + v0)), (1, .int v1)] [] w 0 0 (oV r.1) r.2 := by
  unfold b_Model_storeBuffer_10 at h
  refine V_iload_n (i := 1) d_Model_storeBuffer_10 rfl 1 rfl ?_
  refine V_aload_n (i := 0) d_Model_storeBuffer_11 rfl 0 rfl ?_
  obtain ⟨x12, e12, h⟩ := ob h
  refine V_getI (ci := 9) (k := 1) d_Model_storeBuffer_12 e12 rfl (by decide) in_Model k883 ?_
  refine V_icmp_ge (tgt := 36) d_Model_storeBuffer_15 (by decide) (fun c15 => ?_) (fun c15 => ?_)
  · rw [if_pos c15] at h
    obtain rfl := Option.some.inj h
    exact V_vret rfl (by decide) (by decide) d_Model_storeBuffer_36
  · rw [if_neg c15] at h
    refine V_aload_n (i := 0) d_Model_storeBuffer_18 rfl 0 rfl ?_
    obtain ⟨x19, e19, h⟩ := ob h
    refine V_getR (ci := 9) (k := 7) d_Model_storeBuffer_19 e19 rfl (by decide) in_Model k889 ?_
    refine V_iload_n (i := 1) d_Model_storeBuffer_22 rfl 1 rfl ?_
    refine V_aload_n (i := 0) d_Model_storeBuffer_23 rfl 0 rfl ?_
    obtain ⟨x24, e24, h⟩ := ob h
    refine V_getR (ci := 9) (k := 2) d_Model_storeBuffer_24 e24 rfl (by decide) in_Model k884 ?_
    refine V_iload_n (i := 1) d_Model_storeBuffer_27 rfl 1 rfl ?_
    obtain ⟨x28, e28, h⟩ := ob h
    refine V_aget d_Model_storeBuffer_28 e28 ?_
    obtain ⟨w29, e29, h⟩ := ob h
    refine V_aset d_Model_storeBuffer_29 e29 ?_
    refine V_iinc (i := 1) (v := (v1 + (1 : Int32))) d_Model_storeBuffer_30 1 rfl (congrArg (fun y => v1 + y) (by decide : Int32.ofInt (1) = (1 : Int32))) (by decide) rfl ?_
    refine V_goto (tgt := 10) d_Model_storeBuffer_33 (by decide) ?_
    refine V_lv [1, 0] rfl ?_
    exact hK10 v0 (v1 + (1 : Int32)) w29 _ h
def l_Model_storeBuffer_10 (F : Nat) : Nat → Nat → Int32 → zW → Option (Unit × zW)
  | 0 => fun _ _ _ => none
  | n + 1 => b_Model_storeBuffer_10 F (l_Model_storeBuffer_10 F n)
theorem l_Model_storeBuffer_10_ok (G : zG) (F : Nat) (n : Nat) :  ∀ (v0 : Nat) (v1 : Int32) (w : zW) (r : (Unit × zW)), l_Model_storeBuffer_10 F n v0 v1 w = some r → zV G m_Model_storeBuffer 10 [(0, .ref (z0 G + v0)), (1, .int v1)] [] w 0 0 (oV r.1) r.2 := by
  induction n with
  | zero => intro v0 v1 w r h; exact nomatch (show (none : Option (Unit × zW)) = some r from h)
  | succ n ih => intro v0 v1 w r h; exact b_Model_storeBuffer_10_ok G F (l_Model_storeBuffer_10 F n) ih v0 v1 w r h
def b_Model_storeBuffer_0 (F : Nat) (v0 : Nat) (w : zW) : Option (Unit × zW) := (getI w v0 9 1).bind fun x2 => (putI w v0 9 6 x2).bind fun w5 => l_Model_storeBuffer_10 F F v0 (0 : Int32) w5
set_option maxRecDepth 100000 in
set_option maxHeartbeats 4000000 in
theorem b_Model_storeBuffer_0_ok (G : zG) (F : Nat) (v0 : Nat) (w : zW) (r : (Unit × zW)) (h : b_Model_storeBuffer_0 F v0 w = some r) : zV G m_Model_storeBuffer 0 [(0, .ref (z0 G + v0))] [] w 0 0 (oV r.1) r.2 := by
  unfold b_Model_storeBuffer_0 at h
  refine V_aload_n (i := 0) d_Model_storeBuffer_0 rfl 0 rfl ?_
  refine V_aload_n (i := 0) d_Model_storeBuffer_1 rfl 0 rfl ?_
  obtain ⟨x2, e2, h⟩ := ob h
  refine V_getI (ci := 9) (k := 1) d_Model_storeBuffer_2 e2 rfl (by decide) in_Model k883 ?_
  obtain ⟨w5, e5, h⟩ := ob h
  refine V_putI (ci := 9) (k := 6) t_Model d_Model_storeBuffer_5 e5 rfl (by decide) in_Model k888 ty_Model nm_Model rfl (Or.inl rfl) ?_
  refine V_iconst (v := 0) d_Model_storeBuffer_8 (by decide) ?_
  refine V_istore_n (i := 1) d_Model_storeBuffer_9 rfl (by decide) rfl ?_
  refine V_lv [1, 0] rfl ?_
  exact l_Model_storeBuffer_10_ok G F F v0 (0 : Int32) w5 _ h
def f_Model_storeBuffer (F : Nat) (v0 : Nat) (w : zW) : Option (Unit × zW) := b_Model_storeBuffer_0 F v0 w
theorem c_Model_storeBuffer (G : zG) (F : Nat) (v0 : Nat) (w : zW) (r : (Unit × zW)) (h : f_Model_storeBuffer F v0 w = some r) : zCT G m_Model_storeBuffer [.ref (z0 G + v0)] w (oV r.1) r.2 := zCT.ofV (by decide +kernel) (Or.inl ⟨kc_Model_storeBuffer, rfl⟩) (Nat.le_of_ble_eq_true rfl) (b_Model_storeBuffer_0_ok G F v0 w r h)

/-! ZipArrayModel.add(IIZ)I -/
def m_Model_add : zM := (⟨R_Model, "add", "(IIZ)I"⟩, prog_11_method_78_code, 10, (some .int), [], { frames := 4, cells := 0, slots := 0, locals := 108 })
theorem k1256 : Cond.methodLink R_Model 335 (mY m_Model_isName) ∈ zTb := tb_at 1256 (by decide +kernel) rfl
theorem k1257 : Cond.static (mY m_Model_isName) ∈ zTb := tb_at 1257 (by decide +kernel) rfl
theorem k1266 : Cond.methodLink R_Model 338 (mY m_Model_storeBuffer) ∈ zTb := tb_at 1266 (by decide +kernel) rfl
theorem k1268 : Cond.instanceMethod (mY m_Model_storeBuffer) ∈ zTb := tb_at 1268 (by decide +kernel) rfl
theorem k1270 : Cond.methodLink R_Model 341 (mY m_Model_restBut) ∈ zTb := tb_at 1270 (by decide +kernel) rfl
theorem k1272 : Cond.instanceMethod (mY m_Model_restBut) ∈ zTb := tb_at 1272 (by decide +kernel) rfl
theorem k1278 : Cond.methodLink R_Model 344 (mY m_Model_putLocal) ∈ zTb := tb_at 1278 (by decide +kernel) rfl
theorem k1280 : Cond.instanceMethod (mY m_Model_putLocal) ∈ zTb := tb_at 1280 (by decide +kernel) rfl
theorem k1295 : Cond.methodLink R_Model 348 (mY m_Model_putParts) ∈ zTb := tb_at 1295 (by decide +kernel) rfl
theorem k1297 : Cond.instanceMethod (mY m_Model_putParts) ∈ zTb := tb_at 1297 (by decide +kernel) rfl
theorem k1299 : Cond.methodLink R_Model 351 (mY m_Model_putPart) ∈ zTb := tb_at 1299 (by decide +kernel) rfl
theorem k1301 : Cond.instanceMethod (mY m_Model_putPart) ∈ zTb := tb_at 1301 (by decide +kernel) rfl
theorem kc_Model_add : Cond.code (mY m_Model_add) (mC m_Model_add) (mL m_Model_add) (mT m_Model_add) ∈ zTb := tb_at 1255 (by decide +kernel) rfl
theorem y_Model_add : (mY m_Model_add).cls ≠ "java/lang/invoke/MethodHandle" ∧ (mY m_Model_add).cls ≠ "java/lang/invoke/VarHandle" ∧ (parseMethodDescriptor (mY m_Model_add).desc).map (fun d => d.parameters.length) = some 3 := by decide +kernel
theorem d_Model_add_0 : decode (mC m_Model_add) 0 = .ok (.aload_n 0, 1) := by decide +kernel
theorem d_Model_add_1 : decode (mC m_Model_add) 1 = .ok (.aload_n 0, 1) := by decide +kernel
theorem d_Model_add_2 : decode (mC m_Model_add) 2 = .ok (.invokevirtual 281, 3) := by decide +kernel
theorem d_Model_add_5 : decode (mC m_Model_add) 5 = .ok (.ifCond .le 7, 3) := by decide +kernel
theorem d_Model_add_8 : decode (mC m_Model_add) 8 = .ok (.iconst 1, 1) := by decide +kernel
theorem d_Model_add_9 : decode (mC m_Model_add) 9 = .ok (.goto 22, 3) := by decide +kernel
theorem d_Model_add_12 : decode (mC m_Model_add) 12 = .ok (.iload_n 1, 1) := by decide +kernel
theorem d_Model_add_13 : decode (mC m_Model_add) 13 = .ok (.invokestatic 335, 3) := by decide +kernel
theorem d_Model_add_16 : decode (mC m_Model_add) 16 = .ok (.ifCond .eq 10, 3) := by decide +kernel
theorem d_Model_add_19 : decode (mC m_Model_add) 19 = .ok (.iload_n 2, 1) := by decide +kernel
theorem d_Model_add_20 : decode (mC m_Model_add) 20 = .ok (.invokestatic 246, 3) := by decide +kernel
theorem d_Model_add_23 : decode (mC m_Model_add) 23 = .ok (.ifCond .ne 7, 3) := by decide +kernel
theorem d_Model_add_26 : decode (mC m_Model_add) 26 = .ok (.iconst 2, 1) := by decide +kernel
theorem d_Model_add_27 : decode (mC m_Model_add) 27 = .ok (.goto 4, 3) := by decide +kernel
theorem d_Model_add_30 : decode (mC m_Model_add) 30 = .ok (.iconst 0, 1) := by decide +kernel
theorem d_Model_add_31 : decode (mC m_Model_add) 31 = .ok (.putfield 70, 3) := by decide +kernel
theorem d_Model_add_34 : decode (mC m_Model_add) 34 = .ok (.aload_n 0, 1) := by decide +kernel
theorem d_Model_add_35 : decode (mC m_Model_add) 35 = .ok (.getfield 70, 3) := by decide +kernel
theorem d_Model_add_38 : decode (mC m_Model_add) 38 = .ok (.ifCond .le 5, 3) := by decide +kernel
theorem d_Model_add_41 : decode (mC m_Model_add) 41 = .ok (.iconst 0, 1) := by decide +kernel
theorem d_Model_add_42 : decode (mC m_Model_add) 42 = .ok (.ireturn, 1) := by decide +kernel
theorem d_Model_add_43 : decode (mC m_Model_add) 43 = .ok (.aload_n 0, 1) := by decide +kernel
theorem d_Model_add_44 : decode (mC m_Model_add) 44 = .ok (.iload_n 1, 1) := by decide +kernel
theorem d_Model_add_45 : decode (mC m_Model_add) 45 = .ok (.aload_n 0, 1) := by decide +kernel
theorem d_Model_add_46 : decode (mC m_Model_add) 46 = .ok (.getfield 205, 3) := by decide +kernel
theorem d_Model_add_49 : decode (mC m_Model_add) 49 = .ok (.invokevirtual 249, 3) := by decide +kernel
theorem d_Model_add_52 : decode (mC m_Model_add) 52 = .ok (.istore 4, 2) := by decide +kernel
theorem d_Model_add_54 : decode (mC m_Model_add) 54 = .ok (.iload 4, 2) := by decide +kernel
theorem d_Model_add_56 : decode (mC m_Model_add) 56 = .ok (.ifCond .ge 12, 3) := by decide +kernel
theorem d_Model_add_59 : decode (mC m_Model_add) 59 = .ok (.aload_n 0, 1) := by decide +kernel
theorem d_Model_add_60 : decode (mC m_Model_add) 60 = .ok (.getfield 205, 3) := by decide +kernel
theorem d_Model_add_63 : decode (mC m_Model_add) 63 = .ok (.iconst 1, 1) := by decide +kernel
theorem d_Model_add_64 : decode (mC m_Model_add) 64 = .ok (.iadd, 1) := by decide +kernel
theorem d_Model_add_65 : decode (mC m_Model_add) 65 = .ok (.goto 7, 3) := by decide +kernel
theorem d_Model_add_68 : decode (mC m_Model_add) 68 = .ok (.aload_n 0, 1) := by decide +kernel
theorem d_Model_add_69 : decode (mC m_Model_add) 69 = .ok (.getfield 205, 3) := by decide +kernel
theorem d_Model_add_72 : decode (mC m_Model_add) 72 = .ok (.istore 5, 2) := by decide +kernel
theorem d_Model_add_74 : decode (mC m_Model_add) 74 = .ok (.iload_n 2, 1) := by decide +kernel
theorem d_Model_add_75 : decode (mC m_Model_add) 75 = .ok (.bipush 8, 2) := by decide +kernel
theorem d_Model_add_77 : decode (mC m_Model_add) 77 = .ok (.if_icmp .ne 10, 3) := by decide +kernel
theorem d_Model_add_80 : decode (mC m_Model_add) 80 = .ok (.aload_n 0, 1) := by decide +kernel
theorem d_Model_add_81 : decode (mC m_Model_add) 81 = .ok (.invokevirtual 138, 3) := by decide +kernel
theorem d_Model_add_84 : decode (mC m_Model_add) 84 = .ok (.goto 7, 3) := by decide +kernel
theorem d_Model_add_87 : decode (mC m_Model_add) 87 = .ok (.aload_n 0, 1) := by decide +kernel
theorem d_Model_add_88 : decode (mC m_Model_add) 88 = .ok (.invokevirtual 338, 3) := by decide +kernel
theorem d_Model_add_91 : decode (mC m_Model_add) 91 = .ok (.iload_n 3, 1) := by decide +kernel
theorem d_Model_add_92 : decode (mC m_Model_add) 92 = .ok (.ifCond .eq 8, 3) := by decide +kernel
theorem d_Model_add_95 : decode (mC m_Model_add) 95 = .ok (.bipush 8, 2) := by decide +kernel
theorem d_Model_add_97 : decode (mC m_Model_add) 97 = .ok (.goto 4, 3) := by decide +kernel
theorem d_Model_add_100 : decode (mC m_Model_add) 100 = .ok (.iconst 0, 1) := by decide +kernel
theorem d_Model_add_101 : decode (mC m_Model_add) 101 = .ok (.istore 6, 2) := by decide +kernel
theorem d_Model_add_103 : decode (mC m_Model_add) 103 = .ok (.aload_n 0, 1) := by decide +kernel
theorem d_Model_add_104 : decode (mC m_Model_add) 104 = .ok (.getfield 292, 3) := by decide +kernel
theorem d_Model_add_107 : decode (mC m_Model_add) 107 = .ok (.ifCond .eq 11, 3) := by decide +kernel
theorem d_Model_add_110 : decode (mC m_Model_add) 110 = .ok (.iload_n 3, 1) := by decide +kernel
theorem d_Model_add_111 : decode (mC m_Model_add) 111 = .ok (.ifCond .ne 7, 3) := by decide +kernel
theorem d_Model_add_114 : decode (mC m_Model_add) 114 = .ok (.iconst 1, 1) := by decide +kernel
theorem d_Model_add_115 : decode (mC m_Model_add) 115 = .ok (.goto 4, 3) := by decide +kernel
theorem d_Model_add_118 : decode (mC m_Model_add) 118 = .ok (.iconst 0, 1) := by decide +kernel
theorem d_Model_add_119 : decode (mC m_Model_add) 119 = .ok (.istore 7, 2) := by decide +kernel
theorem d_Model_add_121 : decode (mC m_Model_add) 121 = .ok (.bipush 76, 2) := by decide +kernel
theorem d_Model_add_123 : decode (mC m_Model_add) 123 = .ok (.iconst 2, 1) := by decide +kernel
theorem d_Model_add_124 : decode (mC m_Model_add) 124 = .ok (.iload_n 1, 1) := by decide +kernel
theorem d_Model_add_125 : decode (mC m_Model_add) 125 = .ok (.invokestatic 311, 3) := by decide +kernel
theorem d_Model_add_128 : decode (mC m_Model_add) 128 = .ok (.imul, 1) := by decide +kernel
theorem d_Model_add_129 : decode (mC m_Model_add) 129 = .ok (.iadd, 1) := by decide +kernel
theorem d_Model_add_130 : decode (mC m_Model_add) 130 = .ok (.iload 7, 2) := by decide +kernel
theorem d_Model_add_132 : decode (mC m_Model_add) 132 = .ok (.ifCond .eq 8, 3) := by decide +kernel
theorem d_Model_add_135 : decode (mC m_Model_add) 135 = .ok (.bipush 48, 2) := by decide +kernel
theorem d_Model_add_137 : decode (mC m_Model_add) 137 = .ok (.goto 4, 3) := by decide +kernel
theorem d_Model_add_140 : decode (mC m_Model_add) 140 = .ok (.iconst 0, 1) := by decide +kernel
theorem d_Model_add_141 : decode (mC m_Model_add) 141 = .ok (.iadd, 1) := by decide +kernel
theorem d_Model_add_142 : decode (mC m_Model_add) 142 = .ok (.aload_n 0, 1) := by decide +kernel
theorem d_Model_add_143 : decode (mC m_Model_add) 143 = .ok (.getfield 75, 3) := by decide +kernel
theorem d_Model_add_146 : decode (mC m_Model_add) 146 = .ok (.iadd, 1) := by decide +kernel
theorem d_Model_add_147 : decode (mC m_Model_add) 147 = .ok (.iconst 2, 1) := by decide +kernel
theorem d_Model_add_148 : decode (mC m_Model_add) 148 = .ok (.iload 6, 2) := by decide +kernel
theorem d_Model_add_150 : decode (mC m_Model_add) 150 = .ok (.imul, 1) := by decide +kernel
theorem d_Model_add_151 : decode (mC m_Model_add) 151 = .ok (.iadd, 1) := by decide +kernel
theorem d_Model_add_152 : decode (mC m_Model_add) 152 = .ok (.istore 8, 2) := by decide +kernel
theorem d_Model_add_154 : decode (mC m_Model_add) 154 = .ok (.aload_n 0, 1) := by decide +kernel
theorem d_Model_add_155 : decode (mC m_Model_add) 155 = .ok (.iload 5, 2) := by decide +kernel
theorem d_Model_add_157 : decode (mC m_Model_add) 157 = .ok (.bipush 8, 2) := by decide +kernel
theorem d_Model_add_159 : decode (mC m_Model_add) 159 = .ok (.if_icmp .gt 23, 3) := by decide +kernel
theorem d_Model_add_162 : decode (mC m_Model_add) 162 = .ok (.aload_n 0, 1) := by decide +kernel
theorem d_Model_add_163 : decode (mC m_Model_add) 163 = .ok (.getfield 208, 3) := by decide +kernel
theorem d_Model_add_166 : decode (mC m_Model_add) 166 = .ok (.iload 8, 2) := by decide +kernel
theorem d_Model_add_168 : decode (mC m_Model_add) 168 = .ok (.iadd, 1) := by decide +kernel
theorem d_Model_add_169 : decode (mC m_Model_add) 169 = .ok (.aload_n 0, 1) := by decide +kernel
theorem d_Model_add_170 : decode (mC m_Model_add) 170 = .ok (.iload 4, 2) := by decide +kernel
theorem d_Model_add_172 : decode (mC m_Model_add) 172 = .ok (.invokevirtual 341, 3) := by decide +kernel
theorem d_Model_add_175 : decode (mC m_Model_add) 175 = .ok (.iadd, 1) := by decide +kernel
theorem d_Model_add_176 : decode (mC m_Model_add) 176 = .ok (.sipush 1600, 3) := by decide +kernel
theorem d_Model_add_179 : decode (mC m_Model_add) 179 = .ok (.if_icmp .le 7, 3) := by decide +kernel
theorem d_Model_add_182 : decode (mC m_Model_add) 182 = .ok (.iconst 3, 1) := by decide +kernel
theorem d_Model_add_183 : decode (mC m_Model_add) 183 = .ok (.goto 4, 3) := by decide +kernel
theorem d_Model_add_186 : decode (mC m_Model_add) 186 = .ok (.iconst 0, 1) := by decide +kernel
theorem d_Model_add_187 : decode (mC m_Model_add) 187 = .ok (.putfield 70, 3) := by decide +kernel
theorem d_Model_add_190 : decode (mC m_Model_add) 190 = .ok (.aload_n 0, 1) := by decide +kernel
theorem d_Model_add_191 : decode (mC m_Model_add) 191 = .ok (.getfield 70, 3) := by decide +kernel
theorem d_Model_add_194 : decode (mC m_Model_add) 194 = .ok (.ifCond .le 5, 3) := by decide +kernel
theorem d_Model_add_197 : decode (mC m_Model_add) 197 = .ok (.iconst 0, 1) := by decide +kernel
theorem d_Model_add_198 : decode (mC m_Model_add) 198 = .ok (.ireturn, 1) := by decide +kernel
theorem d_Model_add_199 : decode (mC m_Model_add) 199 = .ok (.aload_n 0, 1) := by decide +kernel
theorem d_Model_add_200 : decode (mC m_Model_add) 200 = .ok (.iconst 0, 1) := by decide +kernel
theorem d_Model_add_201 : decode (mC m_Model_add) 201 = .ok (.putfield 289, 3) := by decide +kernel
theorem d_Model_add_204 : decode (mC m_Model_add) 204 = .ok (.aload_n 0, 1) := by decide +kernel
theorem d_Model_add_205 : decode (mC m_Model_add) 205 = .ok (.iconst 0, 1) := by decide +kernel
theorem d_Model_add_206 : decode (mC m_Model_add) 206 = .ok (.aload_n 0, 1) := by decide +kernel
theorem d_Model_add_207 : decode (mC m_Model_add) 207 = .ok (.getfield 208, 3) := by decide +kernel
theorem d_Model_add_210 : decode (mC m_Model_add) 210 = .ok (.invokevirtual 332, 3) := by decide +kernel
theorem d_Model_add_213 : decode (mC m_Model_add) 213 = .ok (.aload_n 0, 1) := by decide +kernel
theorem d_Model_add_214 : decode (mC m_Model_add) 214 = .ok (.iload_n 1, 1) := by decide +kernel
theorem d_Model_add_215 : decode (mC m_Model_add) 215 = .ok (.iload 6, 2) := by decide +kernel
theorem d_Model_add_217 : decode (mC m_Model_add) 217 = .ok (.iload_n 2, 1) := by decide +kernel
theorem d_Model_add_218 : decode (mC m_Model_add) 218 = .ok (.iload 7, 2) := by decide +kernel
theorem d_Model_add_220 : decode (mC m_Model_add) 220 = .ok (.invokevirtual 344, 3) := by decide +kernel
theorem d_Model_add_223 : decode (mC m_Model_add) 223 = .ok (.aload_n 0, 1) := by decide +kernel
theorem d_Model_add_224 : decode (mC m_Model_add) 224 = .ok (.getfield 289, 3) := by decide +kernel
theorem d_Model_add_227 : decode (mC m_Model_add) 227 = .ok (.istore 9, 2) := by decide +kernel
theorem d_Model_add_229 : decode (mC m_Model_add) 229 = .ok (.aload_n 0, 1) := by decide +kernel
theorem d_Model_add_230 : decode (mC m_Model_add) 230 = .ok (.iload 4, 2) := by decide +kernel
theorem d_Model_add_232 : decode (mC m_Model_add) 232 = .ok (.invokevirtual 348, 3) := by decide +kernel
theorem d_Model_add_235 : decode (mC m_Model_add) 235 = .ok (.aload_n 0, 1) := by decide +kernel
theorem d_Model_add_236 : decode (mC m_Model_add) 236 = .ok (.iload_n 1, 1) := by decide +kernel
theorem d_Model_add_237 : decode (mC m_Model_add) 237 = .ok (.iload 6, 2) := by decide +kernel
theorem d_Model_add_239 : decode (mC m_Model_add) 239 = .ok (.iload_n 2, 1) := by decide +kernel
theorem d_Model_add_240 : decode (mC m_Model_add) 240 = .ok (.iload 7, 2) := by decide +kernel
theorem d_Model_add_242 : decode (mC m_Model_add) 242 = .ok (.invokevirtual 351, 3) := by decide +kernel
theorem d_Model_add_245 : decode (mC m_Model_add) 245 = .ok (.aload_n 0, 1) := by decide +kernel
theorem d_Model_add_246 : decode (mC m_Model_add) 246 = .ok (.iload 9, 2) := by decide +kernel
theorem d_Model_add_248 : decode (mC m_Model_add) 248 = .ok (.iload 5, 2) := by decide +kernel
theorem d_Model_add_250 : decode (mC m_Model_add) 250 = .ok (.aload_n 0, 1) := by decide +kernel
theorem d_Model_add_251 : decode (mC m_Model_add) 251 = .ok (.getfield 194, 3) := by decide +kernel
theorem d_Model_add_254 : decode (mC m_Model_add) 254 = .ok (.aload_n 0, 1) := by decide +kernel
theorem d_Model_add_255 : decode (mC m_Model_add) 255 = .ok (.getfield 211, 3) := by decide +kernel
theorem d_Model_add_258 : decode (mC m_Model_add) 258 = .ok (.isub, 1) := by decide +kernel
theorem d_Model_add_259 : decode (mC m_Model_add) 259 = .ok (.bipush 22, 2) := by decide +kernel
theorem d_Model_add_261 : decode (mC m_Model_add) 261 = .ok (.isub, 1) := by decide +kernel
theorem d_Model_add_262 : decode (mC m_Model_add) 262 = .ok (.invokevirtual 301, 3) := by decide +kernel
theorem d_Model_add_265 : decode (mC m_Model_add) 265 = .ok (.aload_n 0, 1) := by decide +kernel
theorem d_Model_add_266 : decode (mC m_Model_add) 266 = .ok (.aload_n 0, 1) := by decide +kernel
theorem d_Model_add_267 : decode (mC m_Model_add) 267 = .ok (.getfield 211, 3) := by decide +kernel
theorem d_Model_add_270 : decode (mC m_Model_add) 270 = .ok (.bipush 22, 2) := by decide +kernel
theorem d_Model_add_272 : decode (mC m_Model_add) 272 = .ok (.iadd, 1) := by decide +kernel
theorem d_Model_add_273 : decode (mC m_Model_add) 273 = .ok (.aload_n 0, 1) := by decide +kernel
theorem d_Model_add_274 : decode (mC m_Model_add) 274 = .ok (.getfield 194, 3) := by decide +kernel
theorem d_Model_add_277 : decode (mC m_Model_add) 277 = .ok (.invokevirtual 332, 3) := by decide +kernel
theorem d_Model_add_280 : decode (mC m_Model_add) 280 = .ok (.aload_n 0, 1) := by decide +kernel
theorem d_Model_add_281 : decode (mC m_Model_add) 281 = .ok (.invokevirtual 305, 3) := by decide +kernel
theorem d_Model_add_284 : decode (mC m_Model_add) 284 = .ok (.iload 5, 2) := by decide +kernel
theorem d_Model_add_286 : decode (mC m_Model_add) 286 = .ok (.ireturn, 1) := by decide +kernel
def b_Model_add_187 (F : Nat) (v0 : Nat) (v1 : Int32) (v2 : Int32) (v4 : Int32) (v5 : Int32) (v6 : Int32) (v7 : Int32) (s0 : Nat) (s1 : Int32) (w : zW) : Option (Int32 × zW) := (putI w s0 9 0 s1).bind fun w187 => (getI w187 v0 9 0).bind fun x191 => if x191 ≤ 0 then ((putI w187 v0 9 31 (0 : Int32)).bind fun w201 => (getI w201 v0 9 18).bind fun x207 => (zobj w201 v0 9).bind fun _ => (f_Model_putFile F v0 (0 : Int32) x207 w201).bind fun r210 => (zobj r210.2 v0 9).bind fun _ => (f_Model_putLocal F v0 v1 v6 v2 v7 r210.2).bind fun r220 => (getI r220.2 v0 9 31).bind fun x224 => (zobj r220.2 v0 9).bind fun _ => (f_Model_putParts F v0 v4 r220.2).bind fun r232 => (zobj r232.2 v0 9).bind fun _ => (f_Model_putPart F v0 v1 v6 v2 v7 r232.2).bind fun r242 => (getI r242.2 v0 9 3).bind fun x251 => (getI r242.2 v0 9 16).bind fun x255 => (zobj r242.2 v0 9).bind fun _ => (f_Model_putEnd F v0 x224 v5 ((x251 - x255) - (22 : Int32)) r242.2).bind fun r262 => (getI r262.2 v0 9 16).bind fun x267 => (getI r262.2 v0 9 3).bind fun x274 => (zobj r262.2 v0 9).bind fun _ => (f_Model_putFile F v0 (x267 + (22 : Int32)) x274 r262.2).bind fun r277 => (zobj r277.2 v0 9).bind fun _ => (f_Model_takeDraft F v0 r277.2).bind fun r281 => some (v5, r281.2)) else (some ((0 : Int32), w187))
set_option maxRecDepth 100000 in
set_option maxHeartbeats 4000000 in
theorem b_Model_add_187_ok (G : zG) (F : Nat) (v0 : Nat) (v1 : Int32) (v2 : Int32) (v4 : Int32) (v5 : Int32) (v6 : Int32) (v7 : Int32) (s0 : Nat) (s1 : Int32) (w : zW) (r : (Int32 × zW)) (h : b_Model_add_187 F v0 v1 v2 v4 v5 v6 v7 s0 s1 w = some r) : zV G m_Model_add 187 [(0, .ref (z0 G + v0)), (1, .int v1), (2, .int v2), (4, .int v4), (5, .int v5), (6, .int v6), (7, .int v7)] [.int s1, .ref (z0 G + s0)] w 0 0 (oI r.1) r.2 := by
  unfold b_Model_add_187 at h
  obtain ⟨w187, e187, h⟩ := ob h
  refine V_putI (ci := 9) (k := 0) t_Model d_Model_add_187 e187 rfl (by decide) in_Model k882 ty_Model nm_Model rfl (Or.inl rfl) ?_
  refine V_aload_n (i := 0) d_Model_add_190 rfl 0 rfl ?_
  obtain ⟨x191, e191, h⟩ := ob h
  refine V_getI (ci := 9) (k := 0) d_Model_add_191 e191 rfl (by decide) in_Model k882 ?_
  refine V_if_le (tgt := 199) d_Model_add_194 (by decide) (fun c194 => ?_) (fun c194 => ?_)
  · rw [if_pos c194] at h
    refine V_aload_n (i := 0) d_Model_add_199 rfl 0 rfl ?_
    refine V_iconst (v := 0) d_Model_add_200 (by decide) ?_
    obtain ⟨w201, e201, h⟩ := ob h
    refine V_putI (ci := 9) (k := 31) t_Model d_Model_add_201 e201 rfl (by decide) in_Model k913 ty_Model nm_Model rfl (Or.inl rfl) ?_
    refine V_aload_n (i := 0) d_Model_add_204 rfl 0 rfl ?_
    refine V_iconst (v := 0) d_Model_add_205 (by decide) ?_
    refine V_aload_n (i := 0) d_Model_add_206 rfl 0 rfl ?_
    obtain ⟨x207, e207, h⟩ := ob h
    refine V_getI (ci := 9) (k := 18) d_Model_add_207 e207 rfl (by decide) in_Model k900 ?_
    obtain ⟨_, eo210, h⟩ := ob h
    obtain ⟨r210, e210, h⟩ := ob h
    refine V_call (v := none) (st := []) (inv_V (N := m_Model_putFile) (As := [.int (0 : Int32), .int x207]) (ci := 9) d_Model_add_210 eo210 rfl k1274 k1276 sel_Model_putFile kc_Model_putFile y_Model_putFile) ⟨Or.inl kc_Model_putFile, k10, by decide, by decide⟩ (Nat.le_of_ble_eq_true rfl) (by decide) (by decide) (c_Model_putFile G F v0 (0 : Int32) x207 w201 r210 e210) ?_
    refine V_aload_n (i := 0) d_Model_add_213 rfl 0 rfl ?_
    refine V_iload_n (i := 1) d_Model_add_214 rfl 1 rfl ?_
    refine V_iload (i := 6) d_Model_add_215 5 rfl ?_
    refine V_iload_n (i := 2) d_Model_add_217 rfl 2 rfl ?_
    refine V_iload (i := 7) d_Model_add_218 6 rfl ?_
    obtain ⟨_, eo220, h⟩ := ob h
    obtain ⟨r220, e220, h⟩ := ob h
    refine V_call (v := none) (st := []) (inv_V (N := m_Model_putLocal) (As := [.int v1, .int v6, .int v2, .int v7]) (ci := 9) d_Model_add_220 eo220 rfl k1278 k1280 sel_Model_putLocal kc_Model_putLocal y_Model_putLocal) ⟨Or.inl kc_Model_putLocal, k10, by decide, by decide⟩ (Nat.le_of_ble_eq_true rfl) (by decide) (by decide) (c_Model_putLocal G F v0 v1 v6 v2 v7 r210.2 r220 e220) ?_
    refine V_aload_n (i := 0) d_Model_add_223 rfl 0 rfl ?_
    obtain ⟨x224, e224, h⟩ := ob h
    refine V_getI (ci := 9) (k := 31) d_Model_add_224 e224 rfl (by decide) in_Model k913 ?_
    refine V_istore (i := 9) d_Model_add_227 (by decide) rfl ?_
    refine V_aload_n (i := 0) d_Model_add_229 rfl 1 rfl ?_
    refine V_iload (i := 4) d_Model_add_230 4 rfl ?_
    obtain ⟨_, eo232, h⟩ := ob h
    obtain ⟨r232, e232, h⟩ := ob h
    refine V_call (v := none) (st := []) (inv_V (N := m_Model_putParts) (As := [.int v4]) (ci := 9) d_Model_add_232 eo232 rfl k1295 k1297 sel_Model_putParts kc_Model_putParts y_Model_putParts) ⟨Or.inl kc_Model_putParts, k10, by decide, by decide⟩ (Nat.le_of_ble_eq_true rfl) (by decide) (by decide) (c_Model_putParts G F v0 v4 r220.2 r232 e232) ?_
    refine V_aload_n (i := 0) d_Model_add_235 rfl 1 rfl ?_
    refine V_iload_n (i := 1) d_Model_add_236 rfl 2 rfl ?_
    refine V_iload (i := 6) d_Model_add_237 6 rfl ?_
    refine V_iload_n (i := 2) d_Model_add_239 rfl 3 rfl ?_
    refine V_iload (i := 7) d_Model_add_240 7 rfl ?_
    obtain ⟨_, eo242, h⟩ := ob h
    obtain ⟨r242, e242, h⟩ := ob h
    refine V_call (v := none) (st := []) (inv_V (N := m_Model_putPart) (As := [.int v1, .int v6, .int v2, .int v7]) (ci := 9) d_Model_add_242 eo242 rfl k1299 k1301 sel_Model_putPart kc_Model_putPart y_Model_putPart) ⟨Or.inl kc_Model_putPart, k10, by decide, by decide⟩ (Nat.le_of_ble_eq_true rfl) (by decide) (by decide) (c_Model_putPart G F v0 v1 v6 v2 v7 r232.2 r242 e242) ?_
    refine V_aload_n (i := 0) d_Model_add_245 rfl 1 rfl ?_
    refine V_iload (i := 9) d_Model_add_246 0 rfl ?_
    refine V_iload (i := 5) d_Model_add_248 5 rfl ?_
    refine V_aload_n (i := 0) d_Model_add_250 rfl 1 rfl ?_
    obtain ⟨x251, e251, h⟩ := ob h
    refine V_getI (ci := 9) (k := 3) d_Model_add_251 e251 rfl (by decide) in_Model k885 ?_
    refine V_aload_n (i := 0) d_Model_add_254 rfl 1 rfl ?_
    obtain ⟨x255, e255, h⟩ := ob h
    refine V_getI (ci := 9) (k := 16) d_Model_add_255 e255 rfl (by decide) in_Model k898 ?_
    refine V_isub d_Model_add_258 ?_
    refine V_bipush (v := 22) d_Model_add_259 (by decide) ?_
    refine V_isub d_Model_add_261 ?_
    obtain ⟨_, eo262, h⟩ := ob h
    obtain ⟨r262, e262, h⟩ := ob h
    refine V_call (v := none) (st := []) (inv_V (N := m_Model_putEnd) (As := [.int x224, .int v5, .int ((x251 - x255) - (22 : Int32))]) (ci := 9) d_Model_add_262 eo262 rfl k1235 k1237 sel_Model_putEnd kc_Model_putEnd y_Model_putEnd) ⟨Or.inl kc_Model_putEnd, k10, by decide, by decide⟩ (Nat.le_of_ble_eq_true rfl) (by decide) (by decide) (c_Model_putEnd G F v0 x224 v5 ((x251 - x255) - (22 : Int32)) r242.2 r262 e262) ?_
    refine V_aload_n (i := 0) d_Model_add_265 rfl 1 rfl ?_
    refine V_aload_n (i := 0) d_Model_add_266 rfl 1 rfl ?_
    obtain ⟨x267, e267, h⟩ := ob h
    refine V_getI (ci := 9) (k := 16) d_Model_add_267 e267 rfl (by decide) in_Model k898 ?_
    refine V_bipush (v := 22) d_Model_add_270 (by decide) ?_
    refine V_iadd d_Model_add_272 ?_
    refine V_aload_n (i := 0) d_Model_add_273 rfl 1 rfl ?_
    obtain ⟨x274, e274, h⟩ := ob h
    refine V_getI (ci := 9) (k := 3) d_Model_add_274 e274 rfl (by decide) in_Model k885 ?_
    obtain ⟨_, eo277, h⟩ := ob h
    obtain ⟨r277, e277, h⟩ := ob h
    refine V_call (v := none) (st := []) (inv_V (N := m_Model_putFile) (As := [.int (x267 + (22 : Int32)), .int x274]) (ci := 9) d_Model_add_277 eo277 rfl k1274 k1276 sel_Model_putFile kc_Model_putFile y_Model_putFile) ⟨Or.inl kc_Model_putFile, k10, by decide, by decide⟩ (Nat.le_of_ble_eq_true rfl) (by decide) (by decide) (c_Model_putFile G F v0 (x267 + (22 : Int32)) x274 r262.2 r277 e277) ?_
    refine V_aload_n (i := 0) d_Model_add_280 rfl 1 rfl ?_
    obtain ⟨_, eo281, h⟩ := ob h
    obtain ⟨r281, e281, h⟩ := ob h
    refine V_call (v := none) (st := []) (inv_V (N := m_Model_takeDraft) (As := []) (ci := 9) d_Model_add_281 eo281 rfl k1244 k1246 sel_Model_takeDraft kc_Model_takeDraft y_Model_takeDraft) ⟨Or.inl kc_Model_takeDraft, k10, by decide, by decide⟩ (Nat.le_of_ble_eq_true rfl) (by decide) (by decide) (c_Model_takeDraft G F v0 r277.2 r281 e281) ?_
    refine V_iload (i := 5) d_Model_add_284 5 rfl ?_
    obtain rfl := Option.some.inj h
    exact V_iret rfl (by decide) (by decide) d_Model_add_286
  · rw [if_neg c194] at h
    refine V_iconst (v := 0) d_Model_add_197 (by decide) ?_
    obtain rfl := Option.some.inj h
    exact V_iret rfl (by decide) (by decide) d_Model_add_198
def b_Model_add_182 (F : Nat) (v0 : Nat) (v1 : Int32) (v2 : Int32) (v4 : Int32) (v5 : Int32) (v6 : Int32) (v7 : Int32) (s0 : Nat) (w : zW) : Option (Int32 × zW) := b_Model_add_187 F v0 v1 v2 v4 v5 v6 v7 s0 (3 : Int32) w
set_option maxRecDepth 100000 in
set_option maxHeartbeats 4000000 in
theorem b_Model_add_182_ok (G : zG) (F : Nat) (v0 : Nat) (v1 : Int32) (v2 : Int32) (v4 : Int32) (v5 : Int32) (v6 : Int32) (v7 : Int32) (s0 : Nat) (w : zW) (r : (Int32 × zW)) (h : b_Model_add_182 F v0 v1 v2 v4 v5 v6 v7 s0 w = some r) : zV G m_Model_add 182 [(0, .ref (z0 G + v0)), (1, .int v1), (2, .int v2), (4, .int v4), (5, .int v5), (6, .int v6), (7, .int v7)] [.ref (z0 G + s0)] w 0 0 (oI r.1) r.2 := by
  unfold b_Model_add_182 at h
  refine V_iconst (v := 3) d_Model_add_182 (by decide) ?_
  refine V_goto (tgt := 187) d_Model_add_183 (by decide) ?_
  exact b_Model_add_187_ok G F v0 v1 v2 v4 v5 v6 v7 s0 (3 : Int32) w _ h
def b_Model_add_141 (F : Nat) (v0 : Nat) (v1 : Int32) (v2 : Int32) (v4 : Int32) (v5 : Int32) (v6 : Int32) (v7 : Int32) (s0 : Int32) (s1 : Int32) (w : zW) : Option (Int32 × zW) := (getI w v0 9 6).bind fun x143 => if (8 : Int32) < v5 then (b_Model_add_182 F v0 v1 v2 v4 v5 v6 v7 v0 w) else ((getI w v0 9 18).bind fun x163 => (zobj w v0 9).bind fun _ => (f_Model_restBut F v0 v4 w).bind fun r172 => if ((x163 + (((s0 + s1) + x143) + ((2 : Int32) * v6))) + r172.1) ≤ (1600 : Int32) then (b_Model_add_187 F v0 v1 v2 v4 v5 v6 v7 v0 (0 : Int32) r172.2) else (b_Model_add_182 F v0 v1 v2 v4 v5 v6 v7 v0 r172.2))
set_option maxRecDepth 100000 in
set_option maxHeartbeats 4000000 in
theorem b_Model_add_141_ok (G : zG) (F : Nat) (v0 : Nat) (v1 : Int32) (v2 : Int32) (v4 : Int32) (v5 : Int32) (v6 : Int32) (v7 : Int32) (s0 : Int32) (s1 : Int32) (w : zW) (r : (Int32 × zW)) (h : b_Model_add_141 F v0 v1 v2 v4 v5 v6 v7 s0 s1 w = some r) : zV G m_Model_add 141 [(0, .ref (z0 G + v0)), (1, .int v1), (2, .int v2), (4, .int v4), (5, .int v5), (6, .int v6), (7, .int v7)] [.int s1, .int s0] w 0 0 (oI r.1) r.2 := by
  unfold b_Model_add_141 at h
  refine V_iadd d_Model_add_141 ?_
  refine V_aload_n (i := 0) d_Model_add_142 rfl 0 rfl ?_
  obtain ⟨x143, e143, h⟩ := ob h
  refine V_getI (ci := 9) (k := 6) d_Model_add_143 e143 rfl (by decide) in_Model k888 ?_
  refine V_iadd d_Model_add_146 ?_
  refine V_iconst (v := 2) d_Model_add_147 (by decide) ?_
  refine V_iload (i := 6) d_Model_add_148 5 rfl ?_
  refine V_imul d_Model_add_150 ?_
  refine V_iadd d_Model_add_151 ?_
  refine V_istore (i := 8) d_Model_add_152 (by decide) rfl ?_
  refine V_aload_n (i := 0) d_Model_add_154 rfl 1 rfl ?_
  refine V_iload (i := 5) d_Model_add_155 5 rfl ?_
  refine V_bipush (v := 8) d_Model_add_157 (by decide) ?_
  refine V_icmp_gt (tgt := 182) d_Model_add_159 (by decide) (fun c159 => ?_) (fun c159 => ?_)
  · rw [if_pos c159] at h
    refine V_lv [1, 2, 3, 4, 5, 6, 7] rfl ?_
    exact b_Model_add_182_ok G F v0 v1 v2 v4 v5 v6 v7 v0 w _ h
  · rw [if_neg c159] at h
    refine V_aload_n (i := 0) d_Model_add_162 rfl 1 rfl ?_
    obtain ⟨x163, e163, h⟩ := ob h
    refine V_getI (ci := 9) (k := 18) d_Model_add_163 e163 rfl (by decide) in_Model k900 ?_
    refine V_iload (i := 8) d_Model_add_166 0 rfl ?_
    refine V_iadd d_Model_add_168 ?_
    refine V_aload_n (i := 0) d_Model_add_169 rfl 1 rfl ?_
    refine V_iload (i := 4) d_Model_add_170 4 rfl ?_
    obtain ⟨_, eo172, h⟩ := ob h
    obtain ⟨r172, e172, h⟩ := ob h
    refine V_call (v := some (.int r172.1)) (st := [.int (x163 + (((s0 + s1) + x143) + ((2 : Int32) * v6))), .ref (z0 G + v0)]) (inv_V (N := m_Model_restBut) (As := [.int v4]) (ci := 9) d_Model_add_172 eo172 rfl k1270 k1272 sel_Model_restBut kc_Model_restBut y_Model_restBut) ⟨Or.inl kc_Model_restBut, k10, by decide, by decide⟩ (Nat.le_of_ble_eq_true rfl) (by decide) (by decide) (c_Model_restBut G F v0 v4 w r172 e172) ?_
    refine V_iadd d_Model_add_175 ?_
    refine V_sipush (v := 1600) d_Model_add_176 (by decide) ?_
    refine V_icmp_le (tgt := 186) d_Model_add_179 (by decide) (fun c179 => ?_) (fun c179 => ?_)
    · rw [if_pos c179] at h
      refine V_iconst (v := 0) d_Model_add_186 (by decide) ?_
      refine V_lv [1, 2, 3, 4, 5, 6, 7] rfl ?_
      exact b_Model_add_187_ok G F v0 v1 v2 v4 v5 v6 v7 v0 (0 : Int32) r172.2 _ h
    · rw [if_neg c179] at h
      refine V_lv [1, 2, 3, 4, 5, 6, 7] rfl ?_
      exact b_Model_add_182_ok G F v0 v1 v2 v4 v5 v6 v7 v0 r172.2 _ h
def b_Model_add_119 (F : Nat) (v0 : Nat) (v1 : Int32) (v2 : Int32) (v4 : Int32) (v5 : Int32) (v6 : Int32) (s0 : Int32) (w : zW) : Option (Int32 × zW) := (f_Model_bytesOf F v1 w).bind fun r125 => if s0 = 0 then (b_Model_add_141 F v0 v1 v2 v4 v5 v6 s0 ((76 : Int32) + ((2 : Int32) * r125.1)) (0 : Int32) r125.2) else (b_Model_add_141 F v0 v1 v2 v4 v5 v6 s0 ((76 : Int32) + ((2 : Int32) * r125.1)) (48 : Int32) r125.2)
set_option maxRecDepth 100000 in
set_option maxHeartbeats 4000000 in
theorem b_Model_add_119_ok (G : zG) (F : Nat) (v0 : Nat) (v1 : Int32) (v2 : Int32) (v4 : Int32) (v5 : Int32) (v6 : Int32) (s0 : Int32) (w : zW) (r : (Int32 × zW)) (h : b_Model_add_119 F v0 v1 v2 v4 v5 v6 s0 w = some r) : zV G m_Model_add 119 [(0, .ref (z0 G + v0)), (1, .int v1), (2, .int v2), (4, .int v4), (5, .int v5), (6, .int v6)] [.int s0] w 0 0 (oI r.1) r.2 := by
  unfold b_Model_add_119 at h
  refine V_istore (i := 7) d_Model_add_119 (by decide) rfl ?_
  refine V_bipush (v := 76) d_Model_add_121 (by decide) ?_
  refine V_iconst (v := 2) d_Model_add_123 (by decide) ?_
  refine V_iload_n (i := 1) d_Model_add_124 rfl 2 rfl ?_
  obtain ⟨r125, e125, h⟩ := ob h
  refine V_call (v := some (.int r125.1)) (st := [.int (2 : Int32), .int (76 : Int32)]) (inv_S (N := m_Model_bytesOf) (As := [.int v1]) d_Model_add_125 k1260 k1261 k10 (Or.inl kc_Model_bytesOf) y_Model_bytesOf) ⟨Or.inl kc_Model_bytesOf, k10, by decide, by decide⟩ (Nat.le_of_ble_eq_true rfl) (by decide) (by decide) (c_Model_bytesOf G F v1 w r125 e125) ?_
  refine V_imul d_Model_add_128 ?_
  refine V_iadd d_Model_add_129 ?_
  refine V_iload (i := 7) d_Model_add_130 0 rfl ?_
  refine V_if_eq (tgt := 140) d_Model_add_132 (by decide) (fun c132 => ?_) (fun c132 => ?_)
  · rw [if_pos c132] at h
    refine V_iconst (v := 0) d_Model_add_140 (by decide) ?_
    refine V_lv [1, 2, 3, 4, 5, 6, 0] rfl ?_
    exact b_Model_add_141_ok G F v0 v1 v2 v4 v5 v6 s0 ((76 : Int32) + ((2 : Int32) * r125.1)) (0 : Int32) r125.2 _ h
  · rw [if_neg c132] at h
    refine V_bipush (v := 48) d_Model_add_135 (by decide) ?_
    refine V_goto (tgt := 141) d_Model_add_137 (by decide) ?_
    refine V_lv [1, 2, 3, 4, 5, 6, 0] rfl ?_
    exact b_Model_add_141_ok G F v0 v1 v2 v4 v5 v6 s0 ((76 : Int32) + ((2 : Int32) * r125.1)) (48 : Int32) r125.2 _ h
def b_Model_add_118 (F : Nat) (v0 : Nat) (v1 : Int32) (v2 : Int32) (v4 : Int32) (v5 : Int32) (v6 : Int32) (w : zW) : Option (Int32 × zW) := b_Model_add_119 F v0 v1 v2 v4 v5 v6 (0 : Int32) w
set_option maxRecDepth 100000 in
set_option maxHeartbeats 4000000 in
theorem b_Model_add_118_ok (G : zG) (F : Nat) (v0 : Nat) (v1 : Int32) (v2 : Int32) (v4 : Int32) (v5 : Int32) (v6 : Int32) (w : zW) (r : (Int32 × zW)) (h : b_Model_add_118 F v0 v1 v2 v4 v5 v6 w = some r) : zV G m_Model_add 118 [(0, .ref (z0 G + v0)), (1, .int v1), (2, .int v2), (4, .int v4), (5, .int v5), (6, .int v6)] [] w 0 0 (oI r.1) r.2 := by
  unfold b_Model_add_118 at h
  refine V_iconst (v := 0) d_Model_add_118 (by decide) ?_
  exact b_Model_add_119_ok G F v0 v1 v2 v4 v5 v6 (0 : Int32) w _ h
def b_Model_add_101 (F : Nat) (v0 : Nat) (v1 : Int32) (v2 : Int32) (v3 : Int32) (v4 : Int32) (v5 : Int32) (s0 : Int32) (w : zW) : Option (Int32 × zW) := (getI w v0 9 5).bind fun x104 => if x104 = 0 then (b_Model_add_118 F v0 v1 v2 v4 v5 s0 w) else (if v3 = 0 then (b_Model_add_119 F v0 v1 v2 v4 v5 s0 (1 : Int32) w) else (b_Model_add_118 F v0 v1 v2 v4 v5 s0 w))
set_option maxRecDepth 100000 in
set_option maxHeartbeats 4000000 in
theorem b_Model_add_101_ok (G : zG) (F : Nat) (v0 : Nat) (v1 : Int32) (v2 : Int32) (v3 : Int32) (v4 : Int32) (v5 : Int32) (s0 : Int32) (w : zW) (r : (Int32 × zW)) (h : b_Model_add_101 F v0 v1 v2 v3 v4 v5 s0 w = some r) : zV G m_Model_add 101 [(0, .ref (z0 G + v0)), (1, .int v1), (2, .int v2), (3, .int v3), (4, .int v4), (5, .int v5)] [.int s0] w 0 0 (oI r.1) r.2 := by
  unfold b_Model_add_101 at h
  refine V_istore (i := 6) d_Model_add_101 (by decide) rfl ?_
  refine V_aload_n (i := 0) d_Model_add_103 rfl 1 rfl ?_
  obtain ⟨x104, e104, h⟩ := ob h
  refine V_getI (ci := 9) (k := 5) d_Model_add_104 e104 rfl (by decide) in_Model k887 ?_
  refine V_if_eq (tgt := 118) d_Model_add_107 (by decide) (fun c107 => ?_) (fun c107 => ?_)
  · rw [if_pos c107] at h
    refine V_lv [1, 2, 3, 5, 6, 0] rfl ?_
    exact b_Model_add_118_ok G F v0 v1 v2 v4 v5 s0 w _ h
  · rw [if_neg c107] at h
    refine V_iload_n (i := 3) d_Model_add_110 rfl 4 rfl ?_
    refine V_if_ne (tgt := 118) d_Model_add_111 (by decide) (fun c111 => ?_) (fun c111 => ?_)
    · rw [if_neg c111] at h
      refine V_lv [1, 2, 3, 5, 6, 0] rfl ?_
      exact b_Model_add_118_ok G F v0 v1 v2 v4 v5 s0 w _ h
    · rw [if_pos c111] at h
      refine V_iconst (v := 1) d_Model_add_114 (by decide) ?_
      refine V_goto (tgt := 119) d_Model_add_115 (by decide) ?_
      refine V_lv [1, 2, 3, 5, 6, 0] rfl ?_
      exact b_Model_add_119_ok G F v0 v1 v2 v4 v5 s0 (1 : Int32) w _ h
def b_Model_add_91 (F : Nat) (v0 : Nat) (v1 : Int32) (v2 : Int32) (v3 : Int32) (v4 : Int32) (v5 : Int32) (w : zW) : Option (Int32 × zW) := if v3 = 0 then (b_Model_add_101 F v0 v1 v2 v3 v4 v5 (0 : Int32) w) else (b_Model_add_101 F v0 v1 v2 v3 v4 v5 (8 : Int32) w)
set_option maxRecDepth 100000 in
set_option maxHeartbeats 4000000 in
theorem b_Model_add_91_ok (G : zG) (F : Nat) (v0 : Nat) (v1 : Int32) (v2 : Int32) (v3 : Int32) (v4 : Int32) (v5 : Int32) (w : zW) (r : (Int32 × zW)) (h : b_Model_add_91 F v0 v1 v2 v3 v4 v5 w = some r) : zV G m_Model_add 91 [(0, .ref (z0 G + v0)), (1, .int v1), (2, .int v2), (3, .int v3), (4, .int v4), (5, .int v5)] [] w 0 0 (oI r.1) r.2 := by
  unfold b_Model_add_91 at h
  refine V_iload_n (i := 3) d_Model_add_91 rfl 3 rfl ?_
  refine V_if_eq (tgt := 100) d_Model_add_92 (by decide) (fun c92 => ?_) (fun c92 => ?_)
  · rw [if_pos c92] at h
    refine V_iconst (v := 0) d_Model_add_100 (by decide) ?_
    exact b_Model_add_101_ok G F v0 v1 v2 v3 v4 v5 (0 : Int32) w _ h
  · rw [if_neg c92] at h
    refine V_bipush (v := 8) d_Model_add_95 (by decide) ?_
    refine V_goto (tgt := 101) d_Model_add_97 (by decide) ?_
    exact b_Model_add_101_ok G F v0 v1 v2 v3 v4 v5 (8 : Int32) w _ h
def b_Model_add_72 (F : Nat) (v0 : Nat) (v1 : Int32) (v2 : Int32) (v3 : Int32) (v4 : Int32) (s0 : Int32) (w : zW) : Option (Int32 × zW) := if v2 = (8 : Int32) then ((zobj w v0 9).bind fun _ => (f_Model_packBuffer F v0 w).bind fun r81 => b_Model_add_91 F v0 v1 v2 v3 v4 s0 r81.2) else ((zobj w v0 9).bind fun _ => (f_Model_storeBuffer F v0 w).bind fun r88 => b_Model_add_91 F v0 v1 v2 v3 v4 s0 r88.2)
set_option maxRecDepth 100000 in
set_option maxHeartbeats 4000000 in
theorem b_Model_add_72_ok (G : zG) (F : Nat) (v0 : Nat) (v1 : Int32) (v2 : Int32) (v3 : Int32) (v4 : Int32) (s0 : Int32) (w : zW) (r : (Int32 × zW)) (h : b_Model_add_72 F v0 v1 v2 v3 v4 s0 w = some r) : zV G m_Model_add 72 [(0, .ref (z0 G + v0)), (1, .int v1), (2, .int v2), (3, .int v3), (4, .int v4)] [.int s0] w 0 0 (oI r.1) r.2 := by
  unfold b_Model_add_72 at h
  refine V_istore (i := 5) d_Model_add_72 (by decide) rfl ?_
  refine V_iload_n (i := 2) d_Model_add_74 rfl 3 rfl ?_
  refine V_bipush (v := 8) d_Model_add_75 (by decide) ?_
  refine V_icmp_ne (tgt := 87) d_Model_add_77 (by decide) (fun c77 => ?_) (fun c77 => ?_)
  · rw [if_neg c77] at h
    refine V_aload_n (i := 0) d_Model_add_87 rfl 1 rfl ?_
    obtain ⟨_, eo88, h⟩ := ob h
    obtain ⟨r88, e88, h⟩ := ob h
    refine V_call (v := none) (st := []) (inv_V (N := m_Model_storeBuffer) (As := []) (ci := 9) d_Model_add_88 eo88 rfl k1266 k1268 sel_Model_storeBuffer kc_Model_storeBuffer y_Model_storeBuffer) ⟨Or.inl kc_Model_storeBuffer, k10, by decide, by decide⟩ (Nat.le_of_ble_eq_true rfl) (by decide) (by decide) (c_Model_storeBuffer G F v0 w r88 e88) ?_
    refine V_lv [1, 2, 3, 4, 5, 0] rfl ?_
    exact b_Model_add_91_ok G F v0 v1 v2 v3 v4 s0 r88.2 _ h
  · rw [if_pos c77] at h
    refine V_aload_n (i := 0) d_Model_add_80 rfl 1 rfl ?_
    obtain ⟨_, eo81, h⟩ := ob h
    obtain ⟨r81, e81, h⟩ := ob h
    refine V_call (v := none) (st := []) (inv_V (N := m_Model_packBuffer) (As := []) (ci := 9) d_Model_add_81 eo81 rfl k1028 k1030 sel_Model_packBuffer kc_Model_packBuffer y_Model_packBuffer) ⟨Or.inl kc_Model_packBuffer, k10, by decide, by decide⟩ (Nat.le_of_ble_eq_true rfl) (by decide) (by decide) (c_Model_packBuffer G F v0 w r81 e81) ?_
    refine V_goto (tgt := 91) d_Model_add_84 (by decide) ?_
    refine V_lv [1, 2, 3, 4, 5, 0] rfl ?_
    exact b_Model_add_91_ok G F v0 v1 v2 v3 v4 s0 r81.2 _ h
def b_Model_add_31 (F : Nat) (v0 : Nat) (v1 : Int32) (v2 : Int32) (v3 : Int32) (s0 : Nat) (s1 : Int32) (w : zW) : Option (Int32 × zW) := (putI w s0 9 0 s1).bind fun w31 => (getI w31 v0 9 0).bind fun x35 => if x35 ≤ 0 then ((getI w31 v0 9 17).bind fun x46 => (zobj w31 v0 9).bind fun _ => (f_Model_find F v0 v1 x46 w31).bind fun r49 => if 0 ≤ r49.1 then ((getI r49.2 v0 9 17).bind fun x69 => b_Model_add_72 F v0 v1 v2 v3 r49.1 x69 r49.2) else ((getI r49.2 v0 9 17).bind fun x60 => b_Model_add_72 F v0 v1 v2 v3 r49.1 (x60 + (1 : Int32)) r49.2)) else (some ((0 : Int32), w31))
set_option maxRecDepth 100000 in
set_option maxHeartbeats 4000000 in
theorem b_Model_add_31_ok (G : zG) (F : Nat) (v0 : Nat) (v1 : Int32) (v2 : Int32) (v3 : Int32) (s0 : Nat) (s1 : Int32) (w : zW) (r : (Int32 × zW)) (h : b_Model_add_31 F v0 v1 v2 v3 s0 s1 w = some r) : zV G m_Model_add 31 [(0, .ref (z0 G + v0)), (1, .int v1), (2, .int v2), (3, .int v3)] [.int s1, .ref (z0 G + s0)] w 0 0 (oI r.1) r.2 := by
  unfold b_Model_add_31 at h
  obtain ⟨w31, e31, h⟩ := ob h
  refine V_putI (ci := 9) (k := 0) t_Model d_Model_add_31 e31 rfl (by decide) in_Model k882 ty_Model nm_Model rfl (Or.inl rfl) ?_
  refine V_aload_n (i := 0) d_Model_add_34 rfl 0 rfl ?_
  obtain ⟨x35, e35, h⟩ := ob h
  refine V_getI (ci := 9) (k := 0) d_Model_add_35 e35 rfl (by decide) in_Model k882 ?_
  refine V_if_le (tgt := 43) d_Model_add_38 (by decide) (fun c38 => ?_) (fun c38 => ?_)
  · rw [if_pos c38] at h
    refine V_aload_n (i := 0) d_Model_add_43 rfl 0 rfl ?_
    refine V_iload_n (i := 1) d_Model_add_44 rfl 1 rfl ?_
    refine V_aload_n (i := 0) d_Model_add_45 rfl 0 rfl ?_
    obtain ⟨x46, e46, h⟩ := ob h
    refine V_getI (ci := 9) (k := 17) d_Model_add_46 e46 rfl (by decide) in_Model k899 ?_
    obtain ⟨_, eo49, h⟩ := ob h
    obtain ⟨r49, e49, h⟩ := ob h
    refine V_call (v := some (.int r49.1)) (st := []) (inv_V (N := m_Model_find) (As := [.int v1, .int x46]) (ci := 9) d_Model_add_49 eo49 rfl k1188 k1190 sel_Model_find kc_Model_find y_Model_find) ⟨Or.inl kc_Model_find, k10, by decide, by decide⟩ (Nat.le_of_ble_eq_true rfl) (by decide) (by decide) (c_Model_find G F v0 v1 x46 w31 r49 e49) ?_
    refine V_istore (i := 4) d_Model_add_52 (by decide) rfl ?_
    refine V_iload (i := 4) d_Model_add_54 0 rfl ?_
    refine V_if_ge (tgt := 68) d_Model_add_56 (by decide) (fun c56 => ?_) (fun c56 => ?_)
    · rw [if_pos c56] at h
      refine V_aload_n (i := 0) d_Model_add_68 rfl 1 rfl ?_
      obtain ⟨x69, e69, h⟩ := ob h
      refine V_getI (ci := 9) (k := 17) d_Model_add_69 e69 rfl (by decide) in_Model k899 ?_
      refine V_lv [1, 2, 3, 4, 0] rfl ?_
      exact b_Model_add_72_ok G F v0 v1 v2 v3 r49.1 x69 r49.2 _ h
    · rw [if_neg c56] at h
      refine V_aload_n (i := 0) d_Model_add_59 rfl 1 rfl ?_
      obtain ⟨x60, e60, h⟩ := ob h
      refine V_getI (ci := 9) (k := 17) d_Model_add_60 e60 rfl (by decide) in_Model k899 ?_
      refine V_iconst (v := 1) d_Model_add_63 (by decide) ?_
      refine V_iadd d_Model_add_64 ?_
      refine V_goto (tgt := 72) d_Model_add_65 (by decide) ?_
      refine V_lv [1, 2, 3, 4, 0] rfl ?_
      exact b_Model_add_72_ok G F v0 v1 v2 v3 r49.1 (x60 + (1 : Int32)) r49.2 _ h
  · rw [if_neg c38] at h
    refine V_iconst (v := 0) d_Model_add_41 (by decide) ?_
    obtain rfl := Option.some.inj h
    exact V_iret rfl (by decide) (by decide) d_Model_add_42
def b_Model_add_26 (F : Nat) (v0 : Nat) (v1 : Int32) (v2 : Int32) (v3 : Int32) (s0 : Nat) (w : zW) : Option (Int32 × zW) := b_Model_add_31 F v0 v1 v2 v3 s0 (2 : Int32) w
set_option maxRecDepth 100000 in
set_option maxHeartbeats 4000000 in
theorem b_Model_add_26_ok (G : zG) (F : Nat) (v0 : Nat) (v1 : Int32) (v2 : Int32) (v3 : Int32) (s0 : Nat) (w : zW) (r : (Int32 × zW)) (h : b_Model_add_26 F v0 v1 v2 v3 s0 w = some r) : zV G m_Model_add 26 [(0, .ref (z0 G + v0)), (1, .int v1), (2, .int v2), (3, .int v3)] [.ref (z0 G + s0)] w 0 0 (oI r.1) r.2 := by
  unfold b_Model_add_26 at h
  refine V_iconst (v := 2) d_Model_add_26 (by decide) ?_
  refine V_goto (tgt := 31) d_Model_add_27 (by decide) ?_
  exact b_Model_add_31_ok G F v0 v1 v2 v3 s0 (2 : Int32) w _ h
def b_Model_add_0 (F : Nat) (v0 : Nat) (v1 : Int32) (v2 : Int32) (v3 : Int32) (w : zW) : Option (Int32 × zW) := (zobj w v0 9).bind fun _ => (f_Model_open F v0 w).bind fun r2 => if r2.1 ≤ 0 then ((f_Model_isName F v1 r2.2).bind fun r13 => if r13.1 = 0 then (b_Model_add_26 F v0 v1 v2 v3 v0 r13.2) else ((f_Model_isEight F v2 r13.2).bind fun r20 => if r20.1 = 0 then (b_Model_add_26 F v0 v1 v2 v3 v0 r20.2) else (b_Model_add_31 F v0 v1 v2 v3 v0 (0 : Int32) r20.2))) else (b_Model_add_31 F v0 v1 v2 v3 v0 (1 : Int32) r2.2)
set_option maxRecDepth 100000 in
set_option maxHeartbeats 4000000 in
theorem b_Model_add_0_ok (G : zG) (F : Nat) (v0 : Nat) (v1 : Int32) (v2 : Int32) (v3 : Int32) (w : zW) (r : (Int32 × zW)) (h : b_Model_add_0 F v0 v1 v2 v3 w = some r) : zV G m_Model_add 0 [(0, .ref (z0 G + v0)), (1, .int v1), (2, .int v2), (3, .int v3)] [] w 0 0 (oI r.1) r.2 := by
  unfold b_Model_add_0 at h
  refine V_aload_n (i := 0) d_Model_add_0 rfl 0 rfl ?_
  refine V_aload_n (i := 0) d_Model_add_1 rfl 0 rfl ?_
  obtain ⟨_, eo2, h⟩ := ob h
  obtain ⟨r2, e2, h⟩ := ob h
  refine V_call (v := some (.int r2.1)) (st := [.ref (z0 G + v0)]) (inv_V (N := m_Model_open) (As := []) (ci := 9) d_Model_add_2 eo2 rfl k1130 k1132 sel_Model_open kc_Model_open y_Model_open) ⟨Or.inl kc_Model_open, k10, by decide, by decide⟩ (Nat.le_of_ble_eq_true rfl) (by decide) (by decide) (c_Model_open G F v0 w r2 e2) ?_
  refine V_if_le (tgt := 12) d_Model_add_5 (by decide) (fun c5 => ?_) (fun c5 => ?_)
  · rw [if_pos c5] at h
    refine V_iload_n (i := 1) d_Model_add_12 rfl 1 rfl ?_
    obtain ⟨r13, e13, h⟩ := ob h
    refine V_call (v := some (.int r13.1)) (st := [.ref (z0 G + v0)]) (inv_S (N := m_Model_isName) (As := [.int v1]) d_Model_add_13 k1256 k1257 k10 (Or.inl kc_Model_isName) y_Model_isName) ⟨Or.inl kc_Model_isName, k10, by decide, by decide⟩ (Nat.le_of_ble_eq_true rfl) (by decide) (by decide) (c_Model_isName G F v1 r2.2 r13 e13) ?_
    refine V_if_eq (tgt := 26) d_Model_add_16 (by decide) (fun c16 => ?_) (fun c16 => ?_)
    · rw [if_pos c16] at h
      exact b_Model_add_26_ok G F v0 v1 v2 v3 v0 r13.2 _ h
    · rw [if_neg c16] at h
      refine V_iload_n (i := 2) d_Model_add_19 rfl 2 rfl ?_
      obtain ⟨r20, e20, h⟩ := ob h
      refine V_call (v := some (.int r20.1)) (st := [.ref (z0 G + v0)]) (inv_S (N := m_Model_isEight) (As := [.int v2]) d_Model_add_20 k1185 k1186 k10 (Or.inl kc_Model_isEight) y_Model_isEight) ⟨Or.inl kc_Model_isEight, k10, by decide, by decide⟩ (Nat.le_of_ble_eq_true rfl) (by decide) (by decide) (c_Model_isEight G F v2 r13.2 r20 e20) ?_
      refine V_if_ne (tgt := 30) d_Model_add_23 (by decide) (fun c23 => ?_) (fun c23 => ?_)
      · rw [if_neg c23] at h
        refine V_iconst (v := 0) d_Model_add_30 (by decide) ?_
        exact b_Model_add_31_ok G F v0 v1 v2 v3 v0 (0 : Int32) r20.2 _ h
      · rw [if_pos c23] at h
        exact b_Model_add_26_ok G F v0 v1 v2 v3 v0 r20.2 _ h
  · rw [if_neg c5] at h
    refine V_iconst (v := 1) d_Model_add_8 (by decide) ?_
    refine V_goto (tgt := 31) d_Model_add_9 (by decide) ?_
    exact b_Model_add_31_ok G F v0 v1 v2 v3 v0 (1 : Int32) r2.2 _ h
def f_Model_add (F : Nat) (v0 : Nat) (v1 : Int32) (v2 : Int32) (v3 : Int32) (w : zW) : Option (Int32 × zW) := b_Model_add_0 F v0 v1 v2 v3 w
theorem c_Model_add (G : zG) (F : Nat) (v0 : Nat) (v1 : Int32) (v2 : Int32) (v3 : Int32) (w : zW) (r : (Int32 × zW)) (h : f_Model_add F v0 v1 v2 v3 w = some r) : zCT G m_Model_add [.ref (z0 G + v0), .int v1, .int v2, .int v3] w (oI r.1) r.2 := zCT.ofV (by decide +kernel) (Or.inl ⟨kc_Model_add, rfl⟩) (Nat.le_of_ble_eq_true rfl) (b_Model_add_0_ok G F v0 v1 v2 v3 w r h)

/-! ZipArrayModel.remove(I)I -/
def m_Model_remove : zM := (⟨R_Model, "remove", "(I)I"⟩, prog_11_method_79_code, 3, (some .int), [], { frames := 4, cells := 0, slots := 0, locals := 108 })
theorem kc_Model_remove : Cond.code (mY m_Model_remove) (mC m_Model_remove) (mL m_Model_remove) (mT m_Model_remove) ∈ zTb := tb_at 1307 (by decide +kernel) rfl
theorem y_Model_remove : (mY m_Model_remove).cls ≠ "java/lang/invoke/MethodHandle" ∧ (mY m_Model_remove).cls ≠ "java/lang/invoke/VarHandle" ∧ (parseMethodDescriptor (mY m_Model_remove).desc).map (fun d => d.parameters.length) = some 1 := by decide +kernel
theorem d_Model_remove_0 : decode (mC m_Model_remove) 0 = .ok (.aload_n 0, 1) := by decide +kernel
theorem d_Model_remove_1 : decode (mC m_Model_remove) 1 = .ok (.aload_n 0, 1) := by decide +kernel
theorem d_Model_remove_2 : decode (mC m_Model_remove) 2 = .ok (.invokevirtual 281, 3) := by decide +kernel
theorem d_Model_remove_5 : decode (mC m_Model_remove) 5 = .ok (.ifCond .le 7, 3) := by decide +kernel
theorem d_Model_remove_8 : decode (mC m_Model_remove) 8 = .ok (.iconst 1, 1) := by decide +kernel
theorem d_Model_remove_9 : decode (mC m_Model_remove) 9 = .ok (.goto 4, 3) := by decide +kernel
theorem d_Model_remove_12 : decode (mC m_Model_remove) 12 = .ok (.iconst 0, 1) := by decide +kernel
theorem d_Model_remove_13 : decode (mC m_Model_remove) 13 = .ok (.putfield 70, 3) := by decide +kernel
theorem d_Model_remove_16 : decode (mC m_Model_remove) 16 = .ok (.aload_n 0, 1) := by decide +kernel
theorem d_Model_remove_17 : decode (mC m_Model_remove) 17 = .ok (.getfield 70, 3) := by decide +kernel
theorem d_Model_remove_20 : decode (mC m_Model_remove) 20 = .ok (.ifCond .le 7, 3) := by decide +kernel
theorem d_Model_remove_23 : decode (mC m_Model_remove) 23 = .ok (.iconst (-1), 1) := by decide +kernel
theorem d_Model_remove_24 : decode (mC m_Model_remove) 24 = .ok (.goto 12, 3) := by decide +kernel
theorem d_Model_remove_27 : decode (mC m_Model_remove) 27 = .ok (.aload_n 0, 1) := by decide +kernel
theorem d_Model_remove_28 : decode (mC m_Model_remove) 28 = .ok (.iload_n 1, 1) := by decide +kernel
theorem d_Model_remove_29 : decode (mC m_Model_remove) 29 = .ok (.aload_n 0, 1) := by decide +kernel
theorem d_Model_remove_30 : decode (mC m_Model_remove) 30 = .ok (.getfield 205, 3) := by decide +kernel
theorem d_Model_remove_33 : decode (mC m_Model_remove) 33 = .ok (.invokevirtual 249, 3) := by decide +kernel
theorem d_Model_remove_36 : decode (mC m_Model_remove) 36 = .ok (.istore_n 2, 1) := by decide +kernel
theorem d_Model_remove_37 : decode (mC m_Model_remove) 37 = .ok (.aload_n 0, 1) := by decide +kernel
theorem d_Model_remove_38 : decode (mC m_Model_remove) 38 = .ok (.getfield 70, 3) := by decide +kernel
theorem d_Model_remove_41 : decode (mC m_Model_remove) 41 = .ok (.ifCond .ne 36, 3) := by decide +kernel
theorem d_Model_remove_44 : decode (mC m_Model_remove) 44 = .ok (.aload_n 0, 1) := by decide +kernel
theorem d_Model_remove_45 : decode (mC m_Model_remove) 45 = .ok (.iload_n 2, 1) := by decide +kernel
theorem d_Model_remove_46 : decode (mC m_Model_remove) 46 = .ok (.ifCond .ge 7, 3) := by decide +kernel
theorem d_Model_remove_49 : decode (mC m_Model_remove) 49 = .ok (.iconst 2, 1) := by decide +kernel
theorem d_Model_remove_50 : decode (mC m_Model_remove) 50 = .ok (.goto 24, 3) := by decide +kernel
theorem d_Model_remove_53 : decode (mC m_Model_remove) 53 = .ok (.aload_n 0, 1) := by decide +kernel
theorem d_Model_remove_54 : decode (mC m_Model_remove) 54 = .ok (.getfield 208, 3) := by decide +kernel
theorem d_Model_remove_57 : decode (mC m_Model_remove) 57 = .ok (.aload_n 0, 1) := by decide +kernel
theorem d_Model_remove_58 : decode (mC m_Model_remove) 58 = .ok (.iload_n 2, 1) := by decide +kernel
theorem d_Model_remove_59 : decode (mC m_Model_remove) 59 = .ok (.invokevirtual 341, 3) := by decide +kernel
theorem d_Model_remove_62 : decode (mC m_Model_remove) 62 = .ok (.iadd, 1) := by decide +kernel
theorem d_Model_remove_63 : decode (mC m_Model_remove) 63 = .ok (.sipush 1600, 3) := by decide +kernel
theorem d_Model_remove_66 : decode (mC m_Model_remove) 66 = .ok (.if_icmp .le 7, 3) := by decide +kernel
theorem d_Model_remove_69 : decode (mC m_Model_remove) 69 = .ok (.iconst 3, 1) := by decide +kernel
theorem d_Model_remove_70 : decode (mC m_Model_remove) 70 = .ok (.goto 4, 3) := by decide +kernel
theorem d_Model_remove_73 : decode (mC m_Model_remove) 73 = .ok (.iconst 0, 1) := by decide +kernel
theorem d_Model_remove_74 : decode (mC m_Model_remove) 74 = .ok (.putfield 70, 3) := by decide +kernel
theorem d_Model_remove_77 : decode (mC m_Model_remove) 77 = .ok (.aload_n 0, 1) := by decide +kernel
theorem d_Model_remove_78 : decode (mC m_Model_remove) 78 = .ok (.getfield 70, 3) := by decide +kernel
theorem d_Model_remove_81 : decode (mC m_Model_remove) 81 = .ok (.ifCond .le 5, 3) := by decide +kernel
theorem d_Model_remove_84 : decode (mC m_Model_remove) 84 = .ok (.iconst 0, 1) := by decide +kernel
theorem d_Model_remove_85 : decode (mC m_Model_remove) 85 = .ok (.ireturn, 1) := by decide +kernel
theorem d_Model_remove_86 : decode (mC m_Model_remove) 86 = .ok (.aload_n 0, 1) := by decide +kernel
theorem d_Model_remove_87 : decode (mC m_Model_remove) 87 = .ok (.iconst 0, 1) := by decide +kernel
theorem d_Model_remove_88 : decode (mC m_Model_remove) 88 = .ok (.putfield 289, 3) := by decide +kernel
theorem d_Model_remove_91 : decode (mC m_Model_remove) 91 = .ok (.aload_n 0, 1) := by decide +kernel
theorem d_Model_remove_92 : decode (mC m_Model_remove) 92 = .ok (.iconst 0, 1) := by decide +kernel
theorem d_Model_remove_93 : decode (mC m_Model_remove) 93 = .ok (.aload_n 0, 1) := by decide +kernel
theorem d_Model_remove_94 : decode (mC m_Model_remove) 94 = .ok (.getfield 208, 3) := by decide +kernel
theorem d_Model_remove_97 : decode (mC m_Model_remove) 97 = .ok (.invokevirtual 332, 3) := by decide +kernel
theorem d_Model_remove_100 : decode (mC m_Model_remove) 100 = .ok (.aload_n 0, 1) := by decide +kernel
theorem d_Model_remove_101 : decode (mC m_Model_remove) 101 = .ok (.iload_n 2, 1) := by decide +kernel
theorem d_Model_remove_102 : decode (mC m_Model_remove) 102 = .ok (.invokevirtual 348, 3) := by decide +kernel
theorem d_Model_remove_105 : decode (mC m_Model_remove) 105 = .ok (.aload_n 0, 1) := by decide +kernel
theorem d_Model_remove_106 : decode (mC m_Model_remove) 106 = .ok (.aload_n 0, 1) := by decide +kernel
theorem d_Model_remove_107 : decode (mC m_Model_remove) 107 = .ok (.getfield 208, 3) := by decide +kernel
theorem d_Model_remove_110 : decode (mC m_Model_remove) 110 = .ok (.aload_n 0, 1) := by decide +kernel
theorem d_Model_remove_111 : decode (mC m_Model_remove) 111 = .ok (.getfield 205, 3) := by decide +kernel
theorem d_Model_remove_114 : decode (mC m_Model_remove) 114 = .ok (.iconst 1, 1) := by decide +kernel
theorem d_Model_remove_115 : decode (mC m_Model_remove) 115 = .ok (.isub, 1) := by decide +kernel
theorem d_Model_remove_116 : decode (mC m_Model_remove) 116 = .ok (.aload_n 0, 1) := by decide +kernel
theorem d_Model_remove_117 : decode (mC m_Model_remove) 117 = .ok (.getfield 194, 3) := by decide +kernel
theorem d_Model_remove_120 : decode (mC m_Model_remove) 120 = .ok (.aload_n 0, 1) := by decide +kernel
theorem d_Model_remove_121 : decode (mC m_Model_remove) 121 = .ok (.getfield 211, 3) := by decide +kernel
theorem d_Model_remove_124 : decode (mC m_Model_remove) 124 = .ok (.isub, 1) := by decide +kernel
theorem d_Model_remove_125 : decode (mC m_Model_remove) 125 = .ok (.bipush 22, 2) := by decide +kernel
theorem d_Model_remove_127 : decode (mC m_Model_remove) 127 = .ok (.isub, 1) := by decide +kernel
theorem d_Model_remove_128 : decode (mC m_Model_remove) 128 = .ok (.invokevirtual 301, 3) := by decide +kernel
theorem d_Model_remove_131 : decode (mC m_Model_remove) 131 = .ok (.aload_n 0, 1) := by decide +kernel
theorem d_Model_remove_132 : decode (mC m_Model_remove) 132 = .ok (.aload_n 0, 1) := by decide +kernel
theorem d_Model_remove_133 : decode (mC m_Model_remove) 133 = .ok (.getfield 211, 3) := by decide +kernel
theorem d_Model_remove_136 : decode (mC m_Model_remove) 136 = .ok (.bipush 22, 2) := by decide +kernel
theorem d_Model_remove_138 : decode (mC m_Model_remove) 138 = .ok (.iadd, 1) := by decide +kernel
theorem d_Model_remove_139 : decode (mC m_Model_remove) 139 = .ok (.aload_n 0, 1) := by decide +kernel
theorem d_Model_remove_140 : decode (mC m_Model_remove) 140 = .ok (.getfield 194, 3) := by decide +kernel
theorem d_Model_remove_143 : decode (mC m_Model_remove) 143 = .ok (.invokevirtual 332, 3) := by decide +kernel
theorem d_Model_remove_146 : decode (mC m_Model_remove) 146 = .ok (.aload_n 0, 1) := by decide +kernel
theorem d_Model_remove_147 : decode (mC m_Model_remove) 147 = .ok (.invokevirtual 305, 3) := by decide +kernel
theorem d_Model_remove_150 : decode (mC m_Model_remove) 150 = .ok (.aload_n 0, 1) := by decide +kernel
theorem d_Model_remove_151 : decode (mC m_Model_remove) 151 = .ok (.getfield 205, 3) := by decide +kernel
theorem d_Model_remove_154 : decode (mC m_Model_remove) 154 = .ok (.iconst 1, 1) := by decide +kernel
theorem d_Model_remove_155 : decode (mC m_Model_remove) 155 = .ok (.isub, 1) := by decide +kernel
theorem d_Model_remove_156 : decode (mC m_Model_remove) 156 = .ok (.ireturn, 1) := by decide +kernel
def b_Model_remove_77 (F : Nat) (v0 : Nat) (v2 : Int32) (w : zW) : Option (Int32 × zW) := (getI w v0 9 0).bind fun x78 => if x78 ≤ 0 then ((putI w v0 9 31 (0 : Int32)).bind fun w88 => (getI w88 v0 9 18).bind fun x94 => (zobj w88 v0 9).bind fun _ => (f_Model_putFile F v0 (0 : Int32) x94 w88).bind fun r97 => (zobj r97.2 v0 9).bind fun _ => (f_Model_putParts F v0 v2 r97.2).bind fun r102 => (getI r102.2 v0 9 18).bind fun x107 => (getI r102.2 v0 9 17).bind fun x111 => (getI r102.2 v0 9 3).bind fun x117 => (getI r102.2 v0 9 16).bind fun x121 => (zobj r102.2 v0 9).bind fun _ => (f_Model_putEnd F v0 x107 (x111 - (1 : Int32)) ((x117 - x121) - (22 : Int32)) r102.2).bind fun r128 => (getI r128.2 v0 9 16).bind fun x133 => (getI r128.2 v0 9 3).bind fun x140 => (zobj r128.2 v0 9).bind fun _ => (f_Model_putFile F v0 (x133 + (22 : Int32)) x140 r128.2).bind fun r143 => (zobj r143.2 v0 9).bind fun _ => (f_Model_takeDraft F v0 r143.2).bind fun r147 => (getI r147.2 v0 9 17).bind fun x151 => some ((x151 - (1 : Int32)), r147.2)) else (some ((0 : Int32), w))
set_option maxRecDepth 100000 in
set_option maxHeartbeats 4000000 in
theorem b_Model_remove_77_ok (G : zG) (F : Nat) (v0 : Nat) (v2 : Int32) (w : zW) (r : (Int32 × zW)) (h : b_Model_remove_77 F v0 v2 w = some r) : zV G m_Model_remove 77 [(0, .ref (z0 G + v0)), (2, .int v2)] [] w 0 0 (oI r.1) r.2 := by
  unfold b_Model_remove_77 at h
  refine V_aload_n (i := 0) d_Model_remove_77 rfl 0 rfl ?_
  obtain ⟨x78, e78, h⟩ := ob h
  refine V_getI (ci := 9) (k := 0) d_Model_remove_78 e78 rfl (by decide) in_Model k882 ?_
  refine V_if_le (tgt := 86) d_Model_remove_81 (by decide) (fun c81 => ?_) (fun c81 => ?_)
  · rw [if_pos c81] at h
    refine V_aload_n (i := 0) d_Model_remove_86 rfl 0 rfl ?_
    refine V_iconst (v := 0) d_Model_remove_87 (by decide) ?_
    obtain ⟨w88, e88, h⟩ := ob h
    refine V_putI (ci := 9) (k := 31) t_Model d_Model_remove_88 e88 rfl (by decide) in_Model k913 ty_Model nm_Model rfl (Or.inl rfl) ?_
    refine V_aload_n (i := 0) d_Model_remove_91 rfl 0 rfl ?_
    refine V_iconst (v := 0) d_Model_remove_92 (by decide) ?_
    refine V_aload_n (i := 0) d_Model_remove_93 rfl 0 rfl ?_
    obtain ⟨x94, e94, h⟩ := ob h
    refine V_getI (ci := 9) (k := 18) d_Model_remove_94 e94 rfl (by decide) in_Model k900 ?_
    obtain ⟨_, eo97, h⟩ := ob h
    obtain ⟨r97, e97, h⟩ := ob h
    refine V_call (v := none) (st := []) (inv_V (N := m_Model_putFile) (As := [.int (0 : Int32), .int x94]) (ci := 9) d_Model_remove_97 eo97 rfl k1274 k1276 sel_Model_putFile kc_Model_putFile y_Model_putFile) ⟨Or.inl kc_Model_putFile, k10, by decide, by decide⟩ (Nat.le_of_ble_eq_true rfl) (by decide) (by decide) (c_Model_putFile G F v0 (0 : Int32) x94 w88 r97 e97) ?_
    refine V_aload_n (i := 0) d_Model_remove_100 rfl 0 rfl ?_
    refine V_iload_n (i := 2) d_Model_remove_101 rfl 1 rfl ?_
    obtain ⟨_, eo102, h⟩ := ob h
    obtain ⟨r102, e102, h⟩ := ob h
    refine V_call (v := none) (st := []) (inv_V (N := m_Model_putParts) (As := [.int v2]) (ci := 9) d_Model_remove_102 eo102 rfl k1295 k1297 sel_Model_putParts kc_Model_putParts y_Model_putParts) ⟨Or.inl kc_Model_putParts, k10, by decide, by decide⟩ (Nat.le_of_ble_eq_true rfl) (by decide) (by decide) (c_Model_putParts G F v0 v2 r97.2 r102 e102) ?_
    refine V_aload_n (i := 0) d_Model_remove_105 rfl 0 rfl ?_
    refine V_aload_n (i := 0) d_Model_remove_106 rfl 0 rfl ?_
    obtain ⟨x107, e107, h⟩ := ob h
    refine V_getI (ci := 9) (k := 18) d_Model_remove_107 e107 rfl (by decide) in_Model k900 ?_
    refine V_aload_n (i := 0) d_Model_remove_110 rfl 0 rfl ?_
    obtain ⟨x111, e111, h⟩ := ob h
    refine V_getI (ci := 9) (k := 17) d_Model_remove_111 e111 rfl (by decide) in_Model k899 ?_
    refine V_iconst (v := 1) d_Model_remove_114 (by decide) ?_
    refine V_isub d_Model_remove_115 ?_
    refine V_aload_n (i := 0) d_Model_remove_116 rfl 0 rfl ?_
    obtain ⟨x117, e117, h⟩ := ob h
    refine V_getI (ci := 9) (k := 3) d_Model_remove_117 e117 rfl (by decide) in_Model k885 ?_
    refine V_aload_n (i := 0) d_Model_remove_120 rfl 0 rfl ?_
    obtain ⟨x121, e121, h⟩ := ob h
    refine V_getI (ci := 9) (k := 16) d_Model_remove_121 e121 rfl (by decide) in_Model k898 ?_
    refine V_isub d_Model_remove_124 ?_
    refine V_bipush (v := 22) d_Model_remove_125 (by decide) ?_
    refine V_isub d_Model_remove_127 ?_
    obtain ⟨_, eo128, h⟩ := ob h
    obtain ⟨r128, e128, h⟩ := ob h
    refine V_call (v := none) (st := []) (inv_V (N := m_Model_putEnd) (As := [.int x107, .int (x111 - (1 : Int32)), .int ((x117 - x121) - (22 : Int32))]) (ci := 9) d_Model_remove_128 eo128 rfl k1235 k1237 sel_Model_putEnd kc_Model_putEnd y_Model_putEnd) ⟨Or.inl kc_Model_putEnd, k10, by decide, by decide⟩ (Nat.le_of_ble_eq_true rfl) (by decide) (by decide) (c_Model_putEnd G F v0 x107 (x111 - (1 : Int32)) ((x117 - x121) - (22 : Int32)) r102.2 r128 e128) ?_
    refine V_aload_n (i := 0) d_Model_remove_131 rfl 0 rfl ?_
    refine V_aload_n (i := 0) d_Model_remove_132 rfl 0 rfl ?_
    obtain ⟨x133, e133, h⟩ := ob h
    refine V_getI (ci := 9) (k := 16) d_Model_remove_133 e133 rfl (by decide) in_Model k898 ?_
    refine V_bipush (v := 22) d_Model_remove_136 (by decide) ?_
    refine V_iadd d_Model_remove_138 ?_
    refine V_aload_n (i := 0) d_Model_remove_139 rfl 0 rfl ?_
    obtain ⟨x140, e140, h⟩ := ob h
    refine V_getI (ci := 9) (k := 3) d_Model_remove_140 e140 rfl (by decide) in_Model k885 ?_
    obtain ⟨_, eo143, h⟩ := ob h
    obtain ⟨r143, e143, h⟩ := ob h
    refine V_call (v := none) (st := []) (inv_V (N := m_Model_putFile) (As := [.int (x133 + (22 : Int32)), .int x140]) (ci := 9) d_Model_remove_143 eo143 rfl k1274 k1276 sel_Model_putFile kc_Model_putFile y_Model_putFile) ⟨Or.inl kc_Model_putFile, k10, by decide, by decide⟩ (Nat.le_of_ble_eq_true rfl) (by decide) (by decide) (c_Model_putFile G F v0 (x133 + (22 : Int32)) x140 r128.2 r143 e143) ?_
    refine V_aload_n (i := 0) d_Model_remove_146 rfl 0 rfl ?_
    obtain ⟨_, eo147, h⟩ := ob h
    obtain ⟨r147, e147, h⟩ := ob h
    refine V_call (v := none) (st := []) (inv_V (N := m_Model_takeDraft) (As := []) (ci := 9) d_Model_remove_147 eo147 rfl k1244 k1246 sel_Model_takeDraft kc_Model_takeDraft y_Model_takeDraft) ⟨Or.inl kc_Model_takeDraft, k10, by decide, by decide⟩ (Nat.le_of_ble_eq_true rfl) (by decide) (by decide) (c_Model_takeDraft G F v0 r143.2 r147 e147) ?_
    refine V_aload_n (i := 0) d_Model_remove_150 rfl 0 rfl ?_
    obtain ⟨x151, e151, h⟩ := ob h
    refine V_getI (ci := 9) (k := 17) d_Model_remove_151 e151 rfl (by decide) in_Model k899 ?_
    refine V_iconst (v := 1) d_Model_remove_154 (by decide) ?_
    refine V_isub d_Model_remove_155 ?_
    obtain rfl := Option.some.inj h
    exact V_iret rfl (by decide) (by decide) d_Model_remove_156
  · rw [if_neg c81] at h
    refine V_iconst (v := 0) d_Model_remove_84 (by decide) ?_
    obtain rfl := Option.some.inj h
    exact V_iret rfl (by decide) (by decide) d_Model_remove_85
def b_Model_remove_74 (F : Nat) (v0 : Nat) (v2 : Int32) (s0 : Nat) (s1 : Int32) (w : zW) : Option (Int32 × zW) := (putI w s0 9 0 s1).bind fun w74 => b_Model_remove_77 F v0 v2 w74
set_option maxRecDepth 100000 in
set_option maxHeartbeats 4000000 in
theorem b_Model_remove_74_ok (G : zG) (F : Nat) (v0 : Nat) (v2 : Int32) (s0 : Nat) (s1 : Int32) (w : zW) (r : (Int32 × zW)) (h : b_Model_remove_74 F v0 v2 s0 s1 w = some r) : zV G m_Model_remove 74 [(0, .ref (z0 G + v0)), (2, .int v2)] [.int s1, .ref (z0 G + s0)] w 0 0 (oI r.1) r.2 := by
  unfold b_Model_remove_74 at h
  obtain ⟨w74, e74, h⟩ := ob h
  refine V_putI (ci := 9) (k := 0) t_Model d_Model_remove_74 e74 rfl (by decide) in_Model k882 ty_Model nm_Model rfl (Or.inl rfl) ?_
  exact b_Model_remove_77_ok G F v0 v2 w74 _ h
def b_Model_remove_36 (F : Nat) (v0 : Nat) (s0 : Int32) (w : zW) : Option (Int32 × zW) := (getI w v0 9 0).bind fun x38 => if x38 = 0 then (if 0 ≤ s0 then ((getI w v0 9 18).bind fun x54 => (zobj w v0 9).bind fun _ => (f_Model_restBut F v0 s0 w).bind fun r59 => if (x54 + r59.1) ≤ (1600 : Int32) then (b_Model_remove_74 F v0 s0 v0 (0 : Int32) r59.2) else (b_Model_remove_74 F v0 s0 v0 (3 : Int32) r59.2)) else (b_Model_remove_74 F v0 s0 v0 (2 : Int32) w)) else (b_Model_remove_77 F v0 s0 w)
set_option maxRecDepth 100000 in
set_option maxHeartbeats 4000000 in
theorem b_Model_remove_36_ok (G : zG) (F : Nat) (v0 : Nat) (s0 : Int32) (w : zW) (r : (Int32 × zW)) (h : b_Model_remove_36 F v0 s0 w = some r) : zV G m_Model_remove 36 [(0, .ref (z0 G + v0))] [.int s0] w 0 0 (oI r.1) r.2 := by
  unfold b_Model_remove_36 at h
  refine V_istore_n (i := 2) d_Model_remove_36 rfl (by decide) rfl ?_
  refine V_aload_n (i := 0) d_Model_remove_37 rfl 1 rfl ?_
  obtain ⟨x38, e38, h⟩ := ob h
  refine V_getI (ci := 9) (k := 0) d_Model_remove_38 e38 rfl (by decide) in_Model k882 ?_
  refine V_if_ne (tgt := 77) d_Model_remove_41 (by decide) (fun c41 => ?_) (fun c41 => ?_)
  · rw [if_neg c41] at h
    refine V_lv [1, 0] rfl ?_
    exact b_Model_remove_77_ok G F v0 s0 w _ h
  · rw [if_pos c41] at h
    refine V_aload_n (i := 0) d_Model_remove_44 rfl 1 rfl ?_
    refine V_iload_n (i := 2) d_Model_remove_45 rfl 0 rfl ?_
    refine V_if_ge (tgt := 53) d_Model_remove_46 (by decide) (fun c46 => ?_) (fun c46 => ?_)
    · rw [if_pos c46] at h
      refine V_aload_n (i := 0) d_Model_remove_53 rfl 1 rfl ?_
      obtain ⟨x54, e54, h⟩ := ob h
      refine V_getI (ci := 9) (k := 18) d_Model_remove_54 e54 rfl (by decide) in_Model k900 ?_
      refine V_aload_n (i := 0) d_Model_remove_57 rfl 1 rfl ?_
      refine V_iload_n (i := 2) d_Model_remove_58 rfl 0 rfl ?_
      obtain ⟨_, eo59, h⟩ := ob h
      obtain ⟨r59, e59, h⟩ := ob h
      refine V_call (v := some (.int r59.1)) (st := [.int x54, .ref (z0 G + v0)]) (inv_V (N := m_Model_restBut) (As := [.int s0]) (ci := 9) d_Model_remove_59 eo59 rfl k1270 k1272 sel_Model_restBut kc_Model_restBut y_Model_restBut) ⟨Or.inl kc_Model_restBut, k10, by decide, by decide⟩ (Nat.le_of_ble_eq_true rfl) (by decide) (by decide) (c_Model_restBut G F v0 s0 w r59 e59) ?_
      refine V_iadd d_Model_remove_62 ?_
      refine V_sipush (v := 1600) d_Model_remove_63 (by decide) ?_
      refine V_icmp_le (tgt := 73) d_Model_remove_66 (by decide) (fun c66 => ?_) (fun c66 => ?_)
      · rw [if_pos c66] at h
        refine V_iconst (v := 0) d_Model_remove_73 (by decide) ?_
        refine V_lv [1, 0] rfl ?_
        exact b_Model_remove_74_ok G F v0 s0 v0 (0 : Int32) r59.2 _ h
      · rw [if_neg c66] at h
        refine V_iconst (v := 3) d_Model_remove_69 (by decide) ?_
        refine V_goto (tgt := 74) d_Model_remove_70 (by decide) ?_
        refine V_lv [1, 0] rfl ?_
        exact b_Model_remove_74_ok G F v0 s0 v0 (3 : Int32) r59.2 _ h
    · rw [if_neg c46] at h
      refine V_iconst (v := 2) d_Model_remove_49 (by decide) ?_
      refine V_goto (tgt := 74) d_Model_remove_50 (by decide) ?_
      refine V_lv [1, 0] rfl ?_
      exact b_Model_remove_74_ok G F v0 s0 v0 (2 : Int32) w _ h
def b_Model_remove_13 (F : Nat) (v0 : Nat) (v1 : Int32) (s0 : Nat) (s1 : Int32) (w : zW) : Option (Int32 × zW) := (putI w s0 9 0 s1).bind fun w13 => (getI w13 v0 9 0).bind fun x17 => if x17 ≤ 0 then ((getI w13 v0 9 17).bind fun x30 => (zobj w13 v0 9).bind fun _ => (f_Model_find F v0 v1 x30 w13).bind fun r33 => b_Model_remove_36 F v0 r33.1 r33.2) else (b_Model_remove_36 F v0 (-1 : Int32) w13)
set_option maxRecDepth 100000 in
set_option maxHeartbeats 4000000 in
theorem b_Model_remove_13_ok (G : zG) (F : Nat) (v0 : Nat) (v1 : Int32) (s0 : Nat) (s1 : Int32) (w : zW) (r : (Int32 × zW)) (h : b_Model_remove_13 F v0 v1 s0 s1 w = some r) : zV G m_Model_remove 13 [(0, .ref (z0 G + v0)), (1, .int v1)] [.int s1, .ref (z0 G + s0)] w 0 0 (oI r.1) r.2 := by
  unfold b_Model_remove_13 at h
  obtain ⟨w13, e13, h⟩ := ob h
  refine V_putI (ci := 9) (k := 0) t_Model d_Model_remove_13 e13 rfl (by decide) in_Model k882 ty_Model nm_Model rfl (Or.inl rfl) ?_
  refine V_aload_n (i := 0) d_Model_remove_16 rfl 0 rfl ?_
  obtain ⟨x17, e17, h⟩ := ob h
  refine V_getI (ci := 9) (k := 0) d_Model_remove_17 e17 rfl (by decide) in_Model k882 ?_
  refine V_if_le (tgt := 27) d_Model_remove_20 (by decide) (fun c20 => ?_) (fun c20 => ?_)
  · rw [if_pos c20] at h
    refine V_aload_n (i := 0) d_Model_remove_27 rfl 0 rfl ?_
    refine V_iload_n (i := 1) d_Model_remove_28 rfl 1 rfl ?_
    refine V_aload_n (i := 0) d_Model_remove_29 rfl 0 rfl ?_
    obtain ⟨x30, e30, h⟩ := ob h
    refine V_getI (ci := 9) (k := 17) d_Model_remove_30 e30 rfl (by decide) in_Model k899 ?_
    obtain ⟨_, eo33, h⟩ := ob h
    obtain ⟨r33, e33, h⟩ := ob h
    refine V_call (v := some (.int r33.1)) (st := []) (inv_V (N := m_Model_find) (As := [.int v1, .int x30]) (ci := 9) d_Model_remove_33 eo33 rfl k1188 k1190 sel_Model_find kc_Model_find y_Model_find) ⟨Or.inl kc_Model_find, k10, by decide, by decide⟩ (Nat.le_of_ble_eq_true rfl) (by decide) (by decide) (c_Model_find G F v0 v1 x30 w13 r33 e33) ?_
    refine V_lv [0] rfl ?_
    exact b_Model_remove_36_ok G F v0 r33.1 r33.2 _ h
  · rw [if_neg c20] at h
    refine V_iconst (v := -1) d_Model_remove_23 (by decide) ?_
    refine V_goto (tgt := 36) d_Model_remove_24 (by decide) ?_
    refine V_lv [0] rfl ?_
    exact b_Model_remove_36_ok G F v0 (-1 : Int32) w13 _ h
def b_Model_remove_0 (F : Nat) (v0 : Nat) (v1 : Int32) (w : zW) : Option (Int32 × zW) := (zobj w v0 9).bind fun _ => (f_Model_open F v0 w).bind fun r2 => if r2.1 ≤ 0 then (b_Model_remove_13 F v0 v1 v0 (0 : Int32) r2.2) else (b_Model_remove_13 F v0 v1 v0 (1 : Int32) r2.2)
set_option maxRecDepth 100000 in
set_option maxHeartbeats 4000000 in
theorem b_Model_remove_0_ok (G : zG) (F : Nat) (v0 : Nat) (v1 : Int32) (w : zW) (r : (Int32 × zW)) (h : b_Model_remove_0 F v0 v1 w = some r) : zV G m_Model_remove 0 [(0, .ref (z0 G + v0)), (1, .int v1)] [] w 0 0 (oI r.1) r.2 := by
  unfold b_Model_remove_0 at h
  refine V_aload_n (i := 0) d_Model_remove_0 rfl 0 rfl ?_
  refine V_aload_n (i := 0) d_Model_remove_1 rfl 0 rfl ?_
  obtain ⟨_, eo2, h⟩ := ob h
  obtain ⟨r2, e2, h⟩ := ob h
  refine V_call (v := some (.int r2.1)) (st := [.ref (z0 G + v0)]) (inv_V (N := m_Model_open) (As := []) (ci := 9) d_Model_remove_2 eo2 rfl k1130 k1132 sel_Model_open kc_Model_open y_Model_open) ⟨Or.inl kc_Model_open, k10, by decide, by decide⟩ (Nat.le_of_ble_eq_true rfl) (by decide) (by decide) (c_Model_open G F v0 w r2 e2) ?_
  refine V_if_le (tgt := 12) d_Model_remove_5 (by decide) (fun c5 => ?_) (fun c5 => ?_)
  · rw [if_pos c5] at h
    refine V_iconst (v := 0) d_Model_remove_12 (by decide) ?_
    exact b_Model_remove_13_ok G F v0 v1 v0 (0 : Int32) r2.2 _ h
  · rw [if_neg c5] at h
    refine V_iconst (v := 1) d_Model_remove_8 (by decide) ?_
    refine V_goto (tgt := 13) d_Model_remove_9 (by decide) ?_
    exact b_Model_remove_13_ok G F v0 v1 v0 (1 : Int32) r2.2 _ h
def f_Model_remove (F : Nat) (v0 : Nat) (v1 : Int32) (w : zW) : Option (Int32 × zW) := b_Model_remove_0 F v0 v1 w
theorem c_Model_remove (G : zG) (F : Nat) (v0 : Nat) (v1 : Int32) (w : zW) (r : (Int32 × zW)) (h : f_Model_remove F v0 v1 w = some r) : zCT G m_Model_remove [.ref (z0 G + v0), .int v1] w (oI r.1) r.2 := zCT.ofV (by decide +kernel) (Or.inl ⟨kc_Model_remove, rfl⟩) (Nat.le_of_ble_eq_true rfl) (b_Model_remove_0_ok G F v0 v1 w r h)
