/-! ZipArray$Row.<init>(I)V -/
def m_Row_init : zM := (⟨R_Row, "<init>", "(I)V"⟩, prog_7_method_1_code, 2, none, [], { frames := 1, cells := 1, slots := 1600, locals := 20 })
theorem k35 : Cond.methodLink R_Row 1 Lib.objectInit ∈ zTb := tb_at 35 (by decide +kernel) rfl
theorem k36 : Cond.fieldLink R_Row 7 (T_Row 0).1 (T_Row 0).2.1 (T_Row 0).2.2.1 ∈ zTb := tb_at 36 (by decide +kernel) rfl
theorem k57 : Cond.arrayClass .int ∈ zTb := tb_at 57 (by decide +kernel) rfl
theorem kc_Row_init : Cond.code (mY m_Row_init) (mC m_Row_init) (mL m_Row_init) (mT m_Row_init) ∈ zTb := tb_at 34 (by decide +kernel) rfl
theorem y_Row_init : (mY m_Row_init).cls ≠ "java/lang/invoke/MethodHandle" ∧ (mY m_Row_init).cls ≠ "java/lang/invoke/VarHandle" ∧ (parseMethodDescriptor (mY m_Row_init).desc).map (fun d => d.parameters.length) = some 1 := by decide +kernel
theorem d_Row_init_0 : decode (mC m_Row_init) 0 = .ok (.aload_n 0, 1) := by decide +kernel
theorem d_Row_init_1 : decode (mC m_Row_init) 1 = .ok (.invokespecial 1, 3) := by decide +kernel
theorem d_Row_init_4 : decode (mC m_Row_init) 4 = .ok (.aload_n 0, 1) := by decide +kernel
theorem d_Row_init_5 : decode (mC m_Row_init) 5 = .ok (.iload_n 1, 1) := by decide +kernel
theorem d_Row_init_6 : decode (mC m_Row_init) 6 = .ok (.newarray .int, 2) := by decide +kernel
theorem d_Row_init_8 : decode (mC m_Row_init) 8 = .ok (.putfield 7, 3) := by decide +kernel
theorem d_Row_init_11 : decode (mC m_Row_init) 11 = .ok (.return_, 1) := by decide +kernel
def b_Row_init_0 (F : Nat) (v0 : Nat) (v1 : Int32) (w : zW) : Option (Unit × zW) := if v1 < 0 ∨ 1600 < v1.toNatClampNeg then none else (putR (w ++ [.inl (List.replicate v1.toNatClampNeg 0)]) v0 0 0 w.length).bind fun w8 => some ((), w8)
set_option maxRecDepth 100000 in
set_option maxHeartbeats 4000000 in
theorem b_Row_init_0_ok (G : zG) (F : Nat) (v0 : Nat) (v1 : Int32) (w : zW) (r : (Unit × zW)) (h : b_Row_init_0 F v0 v1 w = some r) : zV G m_Row_init 0 [(0, .ref (z0 G + v0)), (1, .int v1)] [] w 0 0 (oV r.1) r.2 := by
  unfold b_Row_init_0 at h
  refine V_aload_n (i := 0) d_Row_init_0 rfl 0 rfl ?_
  refine V_objInit d_Row_init_1 k35 kobj1 kobj2 (by decide) (by decide) ?_
  refine V_aload_n (i := 0) d_Row_init_4 rfl 0 rfl ?_
  refine V_iload_n (i := 1) d_Row_init_5 rfl 1 rfl ?_
  by_cases g6 : v1 < 0 ∨ 1600 < v1.toNatClampNeg
  · exact absurd h (by rw [if_pos g6]; exact nofun)
  rw [if_neg g6] at h
  have gb : v1.toNatClampNeg ≤ 1600 := Nat.not_lt.mp fun q => g6 (Or.inr q)
  refine V_newI (N := v1.toNatClampNeg) d_Row_init_6 k57 (fun q => g6 (Or.inl q)) rfl (Nat.le_trans gb (by decide)) (by decide) (Nat.le_trans (Nat.add_le_add_left gb _) (by decide)) ?_
  refine V_n (k1 := 1) (k2 := 1600) (by decide) (Nat.add_le_add_left gb _) ?_
  obtain ⟨w8, e8, h⟩ := ob h
  refine V_putR (ci := 0) (k := 0) t_Row d_Row_init_8 e8 rfl (by decide) in_Row k36 ty_Row nm_Row (Or.inr ⟨rfl, rfl, rfl⟩) (Or.inr ⟨_, rfl⟩) ?_
  obtain rfl := Option.some.inj h
  exact V_vret rfl (by decide) (by decide) d_Row_init_11
def f_Row_init (F : Nat) (v0 : Nat) (v1 : Int32) (w : zW) : Option (Unit × zW) := b_Row_init_0 F v0 v1 w
theorem c_Row_init (G : zG) (F : Nat) (v0 : Nat) (v1 : Int32) (w : zW) (r : (Unit × zW)) (h : f_Row_init F v0 v1 w = some r) : zCT G m_Row_init [.ref (z0 G + v0), .int v1] w (oV r.1) r.2 := zCT.ofV (by decide +kernel) (Or.inl ⟨kc_Row_init, rfl⟩) (Nat.le_of_ble_eq_true rfl) (b_Row_init_0_ok G F v0 v1 w r h)

/-! ZipArray$Row.empty()V -/
def m_Row_empty : zM := (⟨R_Row, "empty", "()V"⟩, prog_7_method_2_code, 1, none, [], { frames := 0, cells := 0, slots := 0, locals := 0 })
theorem k41 : Cond.fieldLink R_Row 13 (T_Row 1).1 (T_Row 1).2.1 (T_Row 1).2.2.1 ∈ zTb := tb_at 41 (by decide +kernel) rfl
theorem k47 : Cond.fieldLink R_Row 17 (T_Row 2).1 (T_Row 2).2.1 (T_Row 2).2.2.1 ∈ zTb := tb_at 47 (by decide +kernel) rfl
theorem kc_Row_empty : Cond.code (mY m_Row_empty) (mC m_Row_empty) (mL m_Row_empty) (mT m_Row_empty) ∈ zTb := tb_at 290 (by decide +kernel) rfl
theorem y_Row_empty : (mY m_Row_empty).cls ≠ "java/lang/invoke/MethodHandle" ∧ (mY m_Row_empty).cls ≠ "java/lang/invoke/VarHandle" ∧ (parseMethodDescriptor (mY m_Row_empty).desc).map (fun d => d.parameters.length) = some 0 := by decide +kernel
theorem d_Row_empty_0 : decode (mC m_Row_empty) 0 = .ok (.aload_n 0, 1) := by decide +kernel
theorem d_Row_empty_1 : decode (mC m_Row_empty) 1 = .ok (.iconst 0, 1) := by decide +kernel
theorem d_Row_empty_2 : decode (mC m_Row_empty) 2 = .ok (.putfield 13, 3) := by decide +kernel
theorem d_Row_empty_5 : decode (mC m_Row_empty) 5 = .ok (.aload_n 0, 1) := by decide +kernel
theorem d_Row_empty_6 : decode (mC m_Row_empty) 6 = .ok (.iconst 0, 1) := by decide +kernel
theorem d_Row_empty_7 : decode (mC m_Row_empty) 7 = .ok (.putfield 17, 3) := by decide +kernel
theorem d_Row_empty_10 : decode (mC m_Row_empty) 10 = .ok (.return_, 1) := by decide +kernel
def b_Row_empty_0 (F : Nat) (v0 : Nat) (w : zW) : Option (Unit × zW) := (putI w v0 0 1 (0 : Int32)).bind fun w2 => (putI w2 v0 0 2 (0 : Int32)).bind fun w7 => some ((), w7)
set_option maxRecDepth 100000 in
set_option maxHeartbeats 4000000 in
theorem b_Row_empty_0_ok (G : zG) (F : Nat) (v0 : Nat) (w : zW) (r : (Unit × zW)) (h : b_Row_empty_0 F v0 w = some r) : zV G m_Row_empty 0 [(0, .ref (z0 G + v0))] [] w 0 0 (oV r.1) r.2 := by
  unfold b_Row_empty_0 at h
  refine V_aload_n (i := 0) d_Row_empty_0 rfl 0 rfl ?_
  refine V_iconst (v := 0) d_Row_empty_1 (by decide) ?_
  obtain ⟨w2, e2, h⟩ := ob h
  refine V_putI (ci := 0) (k := 1) t_Row d_Row_empty_2 e2 rfl (by decide) in_Row k41 ty_Row nm_Row rfl (Or.inl rfl) ?_
  refine V_aload_n (i := 0) d_Row_empty_5 rfl 0 rfl ?_
  refine V_iconst (v := 0) d_Row_empty_6 (by decide) ?_
  obtain ⟨w7, e7, h⟩ := ob h
  refine V_putI (ci := 0) (k := 2) t_Row d_Row_empty_7 e7 rfl (by decide) in_Row k47 ty_Row nm_Row rfl (Or.inr ⟨rfl, Or.inl rfl⟩) ?_
  obtain rfl := Option.some.inj h
  exact V_vret rfl (by decide) (by decide) d_Row_empty_10
def f_Row_empty (F : Nat) (v0 : Nat) (w : zW) : Option (Unit × zW) := b_Row_empty_0 F v0 w
theorem c_Row_empty (G : zG) (F : Nat) (v0 : Nat) (w : zW) (r : (Unit × zW)) (h : f_Row_empty F v0 w = some r) : zCT G m_Row_empty [.ref (z0 G + v0)] w (oV r.1) r.2 := zCT.ofV (by decide +kernel) (Or.inl ⟨kc_Row_empty, rfl⟩) (Nat.le_of_ble_eq_true rfl) (b_Row_empty_0_ok G F v0 w r h)

/-! ZipArray$Row.hasRoom(I)Z -/
def m_Row_hasRoom : zM := (⟨R_Row, "hasRoom", "(I)Z"⟩, prog_7_method_4_code, 2, (some .boolean), [], { frames := 0, cells := 0, slots := 0, locals := 0 })
theorem kc_Row_hasRoom : Cond.code (mY m_Row_hasRoom) (mC m_Row_hasRoom) (mL m_Row_hasRoom) (mT m_Row_hasRoom) ∈ zTb := tb_at 320 (by decide +kernel) rfl
theorem y_Row_hasRoom : (mY m_Row_hasRoom).cls ≠ "java/lang/invoke/MethodHandle" ∧ (mY m_Row_hasRoom).cls ≠ "java/lang/invoke/VarHandle" ∧ (parseMethodDescriptor (mY m_Row_hasRoom).desc).map (fun d => d.parameters.length) = some 1 := by decide +kernel
theorem d_Row_hasRoom_0 : decode (mC m_Row_hasRoom) 0 = .ok (.iload_n 1, 1) := by decide +kernel
theorem d_Row_hasRoom_1 : decode (mC m_Row_hasRoom) 1 = .ok (.aload_n 0, 1) := by decide +kernel
theorem d_Row_hasRoom_2 : decode (mC m_Row_hasRoom) 2 = .ok (.getfield 7, 3) := by decide +kernel
theorem d_Row_hasRoom_5 : decode (mC m_Row_hasRoom) 5 = .ok (.arraylength, 1) := by decide +kernel
theorem d_Row_hasRoom_6 : decode (mC m_Row_hasRoom) 6 = .ok (.aload_n 0, 1) := by decide +kernel
theorem d_Row_hasRoom_7 : decode (mC m_Row_hasRoom) 7 = .ok (.getfield 13, 3) := by decide +kernel
theorem d_Row_hasRoom_10 : decode (mC m_Row_hasRoom) 10 = .ok (.isub, 1) := by decide +kernel
theorem d_Row_hasRoom_11 : decode (mC m_Row_hasRoom) 11 = .ok (.if_icmp .gt 7, 3) := by decide +kernel
theorem d_Row_hasRoom_14 : decode (mC m_Row_hasRoom) 14 = .ok (.iconst 1, 1) := by decide +kernel
theorem d_Row_hasRoom_15 : decode (mC m_Row_hasRoom) 15 = .ok (.goto 4, 3) := by decide +kernel
theorem d_Row_hasRoom_18 : decode (mC m_Row_hasRoom) 18 = .ok (.iconst 0, 1) := by decide +kernel
theorem d_Row_hasRoom_19 : decode (mC m_Row_hasRoom) 19 = .ok (.ireturn, 1) := by decide +kernel
def b_Row_hasRoom_0 (F : Nat) (v0 : Nat) (v1 : Int32) (w : zW) : Option (Int32 × zW) := (getR w v0 0 0).bind fun x2 => (alen w x2).bind fun x5 => (getI w v0 0 1).bind fun x7 => if (x5 - x7) < v1 then (some ((0 : Int32), w)) else (some ((1 : Int32), w))
set_option maxRecDepth 100000 in
set_option maxHeartbeats 4000000 in
theorem b_Row_hasRoom_0_ok (G : zG) (F : Nat) (v0 : Nat) (v1 : Int32) (w : zW) (r : (Int32 × zW)) (h : b_Row_hasRoom_0 F v0 v1 w = some r) : zV G m_Row_hasRoom 0 [(0, .ref (z0 G + v0)), (1, .int v1)] [] w 0 0 (oI r.1) r.2 := by
  unfold b_Row_hasRoom_0 at h
  refine V_iload_n (i := 1) d_Row_hasRoom_0 rfl 1 rfl ?_
  refine V_aload_n (i := 0) d_Row_hasRoom_1 rfl 0 rfl ?_
  obtain ⟨x2, e2, h⟩ := ob h
  refine V_getR (ci := 0) (k := 0) d_Row_hasRoom_2 e2 rfl (by decide) in_Row k36 ?_
  obtain ⟨x5, e5, h⟩ := ob h
  refine V_alen d_Row_hasRoom_5 e5 ?_
  refine V_aload_n (i := 0) d_Row_hasRoom_6 rfl 0 rfl ?_
  obtain ⟨x7, e7, h⟩ := ob h
  refine V_getI (ci := 0) (k := 1) d_Row_hasRoom_7 e7 rfl (by decide) in_Row k41 ?_
  refine V_isub d_Row_hasRoom_10 ?_
  refine V_icmp_gt (tgt := 18) d_Row_hasRoom_11 (by decide) (fun c11 => ?_) (fun c11 => ?_)
  · rw [if_pos c11] at h
    refine V_iconst (v := 0) d_Row_hasRoom_18 (by decide) ?_
    obtain rfl := Option.some.inj h
    exact V_zret rfl (Or.inl rfl) (by decide) (by decide) d_Row_hasRoom_19
  · rw [if_neg c11] at h
    refine V_iconst (v := 1) d_Row_hasRoom_14 (by decide) ?_
    refine V_goto (tgt := 19) d_Row_hasRoom_15 (by decide) ?_
    obtain rfl := Option.some.inj h
    exact V_zret rfl (Or.inr rfl) (by decide) (by decide) d_Row_hasRoom_19
def f_Row_hasRoom (F : Nat) (v0 : Nat) (v1 : Int32) (w : zW) : Option (Int32 × zW) := b_Row_hasRoom_0 F v0 v1 w
theorem c_Row_hasRoom (G : zG) (F : Nat) (v0 : Nat) (v1 : Int32) (w : zW) (r : (Int32 × zW)) (h : f_Row_hasRoom F v0 v1 w = some r) : zCT G m_Row_hasRoom [.ref (z0 G + v0), .int v1] w (oI r.1) r.2 := zCT.ofV (by decide +kernel) (Or.inl ⟨kc_Row_hasRoom, rfl⟩) (Nat.le_of_ble_eq_true rfl) (b_Row_hasRoom_0_ok G F v0 v1 w r h)

/-! ZipArray$Row.append(I)V -/
def m_Row_append : zM := (⟨R_Row, "append", "(I)V"⟩, prog_7_method_6_code, 2, none, [], { frames := 0, cells := 0, slots := 0, locals := 0 })
theorem kc_Row_append : Cond.code (mY m_Row_append) (mC m_Row_append) (mL m_Row_append) (mT m_Row_append) ∈ zTb := tb_at 340 (by decide +kernel) rfl
theorem y_Row_append : (mY m_Row_append).cls ≠ "java/lang/invoke/MethodHandle" ∧ (mY m_Row_append).cls ≠ "java/lang/invoke/VarHandle" ∧ (parseMethodDescriptor (mY m_Row_append).desc).map (fun d => d.parameters.length) = some 1 := by decide +kernel
theorem d_Row_append_0 : decode (mC m_Row_append) 0 = .ok (.aload_n 0, 1) := by decide +kernel
theorem d_Row_append_1 : decode (mC m_Row_append) 1 = .ok (.getfield 13, 3) := by decide +kernel
theorem d_Row_append_4 : decode (mC m_Row_append) 4 = .ok (.aload_n 0, 1) := by decide +kernel
theorem d_Row_append_5 : decode (mC m_Row_append) 5 = .ok (.getfield 7, 3) := by decide +kernel
theorem d_Row_append_8 : decode (mC m_Row_append) 8 = .ok (.arraylength, 1) := by decide +kernel
theorem d_Row_append_9 : decode (mC m_Row_append) 9 = .ok (.if_icmp .ge 26, 3) := by decide +kernel
theorem d_Row_append_12 : decode (mC m_Row_append) 12 = .ok (.aload_n 0, 1) := by decide +kernel
theorem d_Row_append_13 : decode (mC m_Row_append) 13 = .ok (.getfield 7, 3) := by decide +kernel
theorem d_Row_append_16 : decode (mC m_Row_append) 16 = .ok (.aload_n 0, 1) := by decide +kernel
theorem d_Row_append_17 : decode (mC m_Row_append) 17 = .ok (.getfield 13, 3) := by decide +kernel
theorem d_Row_append_20 : decode (mC m_Row_append) 20 = .ok (.iload_n 1, 1) := by decide +kernel
theorem d_Row_append_21 : decode (mC m_Row_append) 21 = .ok (.iastore, 1) := by decide +kernel
theorem d_Row_append_22 : decode (mC m_Row_append) 22 = .ok (.aload_n 0, 1) := by decide +kernel
theorem d_Row_append_23 : decode (mC m_Row_append) 23 = .ok (.dup, 1) := by decide +kernel
theorem d_Row_append_24 : decode (mC m_Row_append) 24 = .ok (.getfield 13, 3) := by decide +kernel
theorem d_Row_append_27 : decode (mC m_Row_append) 27 = .ok (.iconst 1, 1) := by decide +kernel
theorem d_Row_append_28 : decode (mC m_Row_append) 28 = .ok (.iadd, 1) := by decide +kernel
theorem d_Row_append_29 : decode (mC m_Row_append) 29 = .ok (.putfield 13, 3) := by decide +kernel
theorem d_Row_append_32 : decode (mC m_Row_append) 32 = .ok (.goto 8, 3) := by decide +kernel
theorem d_Row_append_35 : decode (mC m_Row_append) 35 = .ok (.aload_n 0, 1) := by decide +kernel
theorem d_Row_append_36 : decode (mC m_Row_append) 36 = .ok (.iconst 1, 1) := by decide +kernel
theorem d_Row_append_37 : decode (mC m_Row_append) 37 = .ok (.putfield 17, 3) := by decide +kernel
theorem d_Row_append_40 : decode (mC m_Row_append) 40 = .ok (.return_, 1) := by decide +kernel
def b_Row_append_0 (F : Nat) (v0 : Nat) (v1 : Int32) (w : zW) : Option (Unit × zW) := (getI w v0 0 1).bind fun x1 => (getR w v0 0 0).bind fun x5 => (alen w x5).bind fun x8 => if x8 ≤ x1 then ((putI w v0 0 2 (1 : Int32)).bind fun w37 => some ((), w37)) else ((getR w v0 0 0).bind fun x13 => (getI w v0 0 1).bind fun x17 => (aset w x13 x17 v1).bind fun w21 => (getI w21 v0 0 1).bind fun x24 => (putI w21 v0 0 1 (x24 + (1 : Int32))).bind fun w29 => some ((), w29))
set_option maxRecDepth 100000 in
set_option maxHeartbeats 4000000 in
theorem b_Row_append_0_ok (G : zG) (F : Nat) (v0 : Nat) (v1 : Int32) (w : zW) (r : (Unit × zW)) (h : b_Row_append_0 F v0 v1 w = some r) : zV G m_Row_append 0 [(0, .ref (z0 G + v0)), (1, .int v1)] [] w 0 0 (oV r.1) r.2 := by
  unfold b_Row_append_0 at h
  refine V_aload_n (i := 0) d_Row_append_0 rfl 0 rfl ?_
  obtain ⟨x1, e1, h⟩ := ob h
  refine V_getI (ci := 0) (k := 1) d_Row_append_1 e1 rfl (by decide) in_Row k41 ?_
  refine V_aload_n (i := 0) d_Row_append_4 rfl 0 rfl ?_
  obtain ⟨x5, e5, h⟩ := ob h
  refine V_getR (ci := 0) (k := 0) d_Row_append_5 e5 rfl (by decide) in_Row k36 ?_
  obtain ⟨x8, e8, h⟩ := ob h
  refine V_alen d_Row_append_8 e8 ?_
  refine V_icmp_ge (tgt := 35) d_Row_append_9 (by decide) (fun c9 => ?_) (fun c9 => ?_)
  · rw [if_pos c9] at h
    refine V_aload_n (i := 0) d_Row_append_35 rfl 0 rfl ?_
    refine V_iconst (v := 1) d_Row_append_36 (by decide) ?_
    obtain ⟨w37, e37, h⟩ := ob h
    refine V_putI (ci := 0) (k := 2) t_Row d_Row_append_37 e37 rfl (by decide) in_Row k47 ty_Row nm_Row rfl (Or.inr ⟨rfl, Or.inr rfl⟩) ?_
    obtain rfl := Option.some.inj h
    exact V_vret rfl (by decide) (by decide) d_Row_append_40
  · rw [if_neg c9] at h
    refine V_aload_n (i := 0) d_Row_append_12 rfl 0 rfl ?_
    obtain ⟨x13, e13, h⟩ := ob h
    refine V_getR (ci := 0) (k := 0) d_Row_append_13 e13 rfl (by decide) in_Row k36 ?_
    refine V_aload_n (i := 0) d_Row_append_16 rfl 0 rfl ?_
    obtain ⟨x17, e17, h⟩ := ob h
    refine V_getI (ci := 0) (k := 1) d_Row_append_17 e17 rfl (by decide) in_Row k41 ?_
    refine V_iload_n (i := 1) d_Row_append_20 rfl 1 rfl ?_
    obtain ⟨w21, e21, h⟩ := ob h
    refine V_aset d_Row_append_21 e21 ?_
    refine V_aload_n (i := 0) d_Row_append_22 rfl 0 rfl ?_
    refine V_dup rfl d_Row_append_23 ?_
    obtain ⟨x24, e24, h⟩ := ob h
    refine V_getI (ci := 0) (k := 1) d_Row_append_24 e24 rfl (by decide) in_Row k41 ?_
    refine V_iconst (v := 1) d_Row_append_27 (by decide) ?_
    refine V_iadd d_Row_append_28 ?_
    obtain ⟨w29, e29, h⟩ := ob h
    refine V_putI (ci := 0) (k := 1) t_Row d_Row_append_29 e29 rfl (by decide) in_Row k41 ty_Row nm_Row rfl (Or.inl rfl) ?_
    refine V_goto (tgt := 40) d_Row_append_32 (by decide) ?_
    obtain rfl := Option.some.inj h
    exact V_vret rfl (by decide) (by decide) d_Row_append_40
def f_Row_append (F : Nat) (v0 : Nat) (v1 : Int32) (w : zW) : Option (Unit × zW) := b_Row_append_0 F v0 v1 w
theorem c_Row_append (G : zG) (F : Nat) (v0 : Nat) (v1 : Int32) (w : zW) (r : (Unit × zW)) (h : f_Row_append F v0 v1 w = some r) : zCT G m_Row_append [.ref (z0 G + v0), .int v1] w (oV r.1) r.2 := zCT.ofV (by decide +kernel) (Or.inl ⟨kc_Row_append, rfl⟩) (Nat.le_of_ble_eq_true rfl) (b_Row_append_0_ok G F v0 v1 w r h)

/-! ZipArray$Row.appendHighestFirst(JI)V -/
def m_Row_appendHighestFirst : zM := (⟨R_Row, "appendHighestFirst", "(JI)V"⟩, prog_7_method_8_code, 5, none, [], { frames := 1, cells := 0, slots := 0, locals := 21 })
theorem k2 : Cond.initialized R_Row ∈ zTb := tb_at 2 (by decide +kernel) rfl
theorem k337 : Cond.methodLink R_Row 25 (mY m_Row_append) ∈ zTb := tb_at 337 (by decide +kernel) rfl
theorem k338 : Cond.instanceMethod (mY m_Row_append) ∈ zTb := tb_at 338 (by decide +kernel) rfl
theorem k339 : Cond.selects R_Row (mY m_Row_append) (mY m_Row_append) ∈ zTb := tb_at 339 (by decide +kernel) rfl
theorem kc_Row_appendHighestFirst : Cond.code (mY m_Row_appendHighestFirst) (mC m_Row_appendHighestFirst) (mL m_Row_appendHighestFirst) (mT m_Row_appendHighestFirst) ∈ zTb := tb_at 626 (by decide +kernel) rfl
theorem y_Row_appendHighestFirst : (mY m_Row_appendHighestFirst).cls ≠ "java/lang/invoke/MethodHandle" ∧ (mY m_Row_appendHighestFirst).cls ≠ "java/lang/invoke/VarHandle" ∧ (parseMethodDescriptor (mY m_Row_appendHighestFirst).desc).map (fun d => d.parameters.length) = some 2 := by decide +kernel
theorem d_Row_appendHighestFirst_0 : decode (mC m_Row_appendHighestFirst) 0 = .ok (.iload_n 3, 1) := by decide +kernel
theorem d_Row_appendHighestFirst_1 : decode (mC m_Row_appendHighestFirst) 1 = .ok (.iconst 1, 1) := by decide +kernel
theorem d_Row_appendHighestFirst_2 : decode (mC m_Row_appendHighestFirst) 2 = .ok (.isub, 1) := by decide +kernel
theorem d_Row_appendHighestFirst_3 : decode (mC m_Row_appendHighestFirst) 3 = .ok (.istore 4, 2) := by decide +kernel
theorem d_Row_appendHighestFirst_5 : decode (mC m_Row_appendHighestFirst) 5 = .ok (.iload 4, 2) := by decide +kernel
theorem d_Row_appendHighestFirst_7 : decode (mC m_Row_appendHighestFirst) 7 = .ok (.ifCond .lt 25, 3) := by decide +kernel
theorem d_Row_appendHighestFirst_10 : decode (mC m_Row_appendHighestFirst) 10 = .ok (.aload_n 0, 1) := by decide +kernel
theorem d_Row_appendHighestFirst_11 : decode (mC m_Row_appendHighestFirst) 11 = .ok (.lload_n 1, 1) := by decide +kernel
theorem d_Row_appendHighestFirst_12 : decode (mC m_Row_appendHighestFirst) 12 = .ok (.bipush 8, 2) := by decide +kernel
theorem d_Row_appendHighestFirst_14 : decode (mC m_Row_appendHighestFirst) 14 = .ok (.iload 4, 2) := by decide +kernel
theorem d_Row_appendHighestFirst_16 : decode (mC m_Row_appendHighestFirst) 16 = .ok (.imul, 1) := by decide +kernel
theorem d_Row_appendHighestFirst_17 : decode (mC m_Row_appendHighestFirst) 17 = .ok (.lushr, 1) := by decide +kernel
theorem d_Row_appendHighestFirst_18 : decode (mC m_Row_appendHighestFirst) 18 = .ok (.l2i, 1) := by decide +kernel
theorem d_Row_appendHighestFirst_19 : decode (mC m_Row_appendHighestFirst) 19 = .ok (.sipush 255, 3) := by decide +kernel
theorem d_Row_appendHighestFirst_22 : decode (mC m_Row_appendHighestFirst) 22 = .ok (.iand, 1) := by decide +kernel
theorem d_Row_appendHighestFirst_23 : decode (mC m_Row_appendHighestFirst) 23 = .ok (.invokevirtual 25, 3) := by decide +kernel
theorem d_Row_appendHighestFirst_26 : decode (mC m_Row_appendHighestFirst) 26 = .ok (.iinc 4 (-1), 3) := by decide +kernel
theorem d_Row_appendHighestFirst_29 : decode (mC m_Row_appendHighestFirst) 29 = .ok (.goto (-24), 3) := by decide +kernel
theorem d_Row_appendHighestFirst_32 : decode (mC m_Row_appendHighestFirst) 32 = .ok (.return_, 1) := by decide +kernel
def b_Row_appendHighestFirst_5 (F : Nat) (K5 : Nat → Int64 → Int32 → zW → Option (Unit × zW)) (v0 : Nat) (v1 : Int64) (v4 : Int32) (w : zW) : Option (Unit × zW) := if v4 < 0 then (some ((), w)) else ((zobj w v0 0).bind fun _ => (f_Row_append F v0 ((v1.toUInt64 >>> (((8 : Int32) * v4).toInt64.toUInt64 &&& Int64.toUInt64 63)).toInt64.toInt32 &&& (255 : Int32)) w).bind fun r23 => K5 v0 v1 (v4 + (-1 : Int32)) r23.2)
set_option maxRecDepth 100000 in
set_option maxHeartbeats 4000000 in
theorem b_Row_appendHighestFirst_5_ok (G : zG) (F : Nat) (K5 : Nat → Int64 → Int32 → zW → Option (Unit × zW)) (hK5 : ∀ (v0 : Nat) (v1 : Int64) (v4 : Int32) (w : zW) (r : (Unit × zW)), K5 v0 v1 v4 w = some r → zV G m_Row_appendHighestFirst 5 [(0, .ref (z0 G + v0)), (1, .long v1), (4, .int v4)] [] w 0 0 (oV r.1) r.2) (v0 : Nat) (v1 : Int64) (v4 : Int32) (w : zW) (r : (Unit × zW)) (h : b_Row_appendHighestFirst_5 F K5 v0 v1 v4 w = some r) : zV G m_Row_appendHighestFirst 5 [(0, .ref (z0 G + v0)), (1, .long v1), (4, .int v4)] [] w 0 0 (oV r.1) r.2 := by
  unfold b_Row_appendHighestFirst_5 at h
  refine V_iload (i := 4) d_Row_appendHighestFirst_5 2 rfl ?_
  refine V_if_lt (tgt := 32) d_Row_appendHighestFirst_7 (by decide) (fun c7 => ?_) (fun c7 => ?_)
  · rw [if_pos c7] at h
    obtain rfl := Option.some.inj h
    exact V_vret rfl (by decide) (by decide) d_Row_appendHighestFirst_32
  · rw [if_neg c7] at h
    refine V_aload_n (i := 0) d_Row_appendHighestFirst_10 rfl 0 rfl ?_
    refine V_lload_n (i := 1) d_Row_appendHighestFirst_11 rfl 1 rfl ?_
    refine V_bipush (v := 8) d_Row_appendHighestFirst_12 (by decide) ?_
    refine V_iload (i := 4) d_Row_appendHighestFirst_14 2 rfl ?_
    refine V_imul d_Row_appendHighestFirst_16 ?_
    refine V_lushr d_Row_appendHighestFirst_17 ?_
    refine V_l2i d_Row_appendHighestFirst_18 ?_
    refine V_sipush (v := 255) d_Row_appendHighestFirst_19 (by decide) ?_
    refine V_iand d_Row_appendHighestFirst_22 ?_
    obtain ⟨_, eo23, h⟩ := ob h
    obtain ⟨r23, e23, h⟩ := ob h
    refine V_call (v := none) (st := []) (inv_V (N := m_Row_append) (As := [.int ((v1.toUInt64 >>> (((8 : Int32) * v4).toInt64.toUInt64 &&& Int64.toUInt64 63)).toInt64.toInt32 &&& (255 : Int32))]) (ci := 0) d_Row_appendHighestFirst_23 eo23 rfl k337 k338 k339 kc_Row_append y_Row_append) ⟨Or.inl kc_Row_append, k2, by decide, by decide⟩ (by decide) (by decide) (by decide) (c_Row_append G F v0 ((v1.toUInt64 >>> (((8 : Int32) * v4).toInt64.toUInt64 &&& Int64.toUInt64 63)).toInt64.toInt32 &&& (255 : Int32)) w r23 e23) ?_
    refine V_iinc (i := 4) (v := (v4 + (-1 : Int32))) d_Row_appendHighestFirst_26 2 rfl (congrArg (fun y => v4 + y) (by decide : Int32.ofInt (-1) = (-1 : Int32))) (by decide) rfl ?_
    refine V_goto (tgt := 5) d_Row_appendHighestFirst_29 (by decide) ?_
    refine V_lv [1, 2, 0] rfl ?_
    exact hK5 v0 v1 (v4 + (-1 : Int32)) r23.2 _ h
def l_Row_appendHighestFirst_5 (F : Nat) : Nat → Nat → Int64 → Int32 → zW → Option (Unit × zW)
  | 0 => fun _ _ _ _ => none
  | n + 1 => b_Row_appendHighestFirst_5 F (l_Row_appendHighestFirst_5 F n)
theorem l_Row_appendHighestFirst_5_ok (G : zG) (F : Nat) (n : Nat) :  ∀ (v0 : Nat) (v1 : Int64) (v4 : Int32) (w : zW) (r : (Unit × zW)), l_Row_appendHighestFirst_5 F n v0 v1 v4 w = some r → zV G m_Row_appendHighestFirst 5 [(0, .ref (z0 G + v0)), (1, .long v1), (4, .int v4)] [] w 0 0 (oV r.1) r.2 := by
  induction n with
  | zero => intro v0 v1 v4 w r h; exact nomatch (show (none : Option (Unit × zW)) = some r from h)
  | succ n ih => intro v0 v1 v4 w r h; exact b_Row_appendHighestFirst_5_ok G F (l_Row_appendHighestFirst_5 F n) ih v0 v1 v4 w r h
def b_Row_appendHighestFirst_0 (F : Nat) (v0 : Nat) (v1 : Int64) (v3 : Int32) (w : zW) : Option (Unit × zW) := l_Row_appendHighestFirst_5 F F v0 v1 (v3 - (1 : Int32)) w
set_option maxRecDepth 100000 in
set_option maxHeartbeats 4000000 in
theorem b_Row_appendHighestFirst_0_ok (G : zG) (F : Nat) (v0 : Nat) (v1 : Int64) (v3 : Int32) (w : zW) (r : (Unit × zW)) (h : b_Row_appendHighestFirst_0 F v0 v1 v3 w = some r) : zV G m_Row_appendHighestFirst 0 [(0, .ref (z0 G + v0)), (1, .long v1), (3, .int v3)] [] w 0 0 (oV r.1) r.2 := by
  unfold b_Row_appendHighestFirst_0 at h
  refine V_iload_n (i := 3) d_Row_appendHighestFirst_0 rfl 2 rfl ?_
  refine V_iconst (v := 1) d_Row_appendHighestFirst_1 (by decide) ?_
  refine V_isub d_Row_appendHighestFirst_2 ?_
  refine V_istore (i := 4) d_Row_appendHighestFirst_3 (by decide) rfl ?_
  refine V_lv [1, 2, 0] rfl ?_
  exact l_Row_appendHighestFirst_5_ok G F F v0 v1 (v3 - (1 : Int32)) w _ h
def f_Row_appendHighestFirst (F : Nat) (v0 : Nat) (v1 : Int64) (v3 : Int32) (w : zW) : Option (Unit × zW) := b_Row_appendHighestFirst_0 F v0 v1 v3 w
theorem c_Row_appendHighestFirst (G : zG) (F : Nat) (v0 : Nat) (v1 : Int64) (v3 : Int32) (w : zW) (r : (Unit × zW)) (h : f_Row_appendHighestFirst F v0 v1 v3 w = some r) : zCT G m_Row_appendHighestFirst [.ref (z0 G + v0), .long v1, .int v3] w (oV r.1) r.2 := zCT.ofV (by decide +kernel) (Or.inl ⟨kc_Row_appendHighestFirst, rfl⟩) (Nat.le_of_ble_eq_true rfl) (b_Row_appendHighestFirst_0_ok G F v0 v1 v3 w r h)

/-! ZipArray$Row.has(I)Z -/
def m_Row_has : zM := (⟨R_Row, "has", "(I)Z"⟩, prog_7_method_3_code, 2, (some .boolean), [], { frames := 0, cells := 0, slots := 0, locals := 0 })
theorem kc_Row_has : Cond.code (mY m_Row_has) (mC m_Row_has) (mL m_Row_has) (mT m_Row_has) ∈ zTb := tb_at 406 (by decide +kernel) rfl
theorem y_Row_has : (mY m_Row_has).cls ≠ "java/lang/invoke/MethodHandle" ∧ (mY m_Row_has).cls ≠ "java/lang/invoke/VarHandle" ∧ (parseMethodDescriptor (mY m_Row_has).desc).map (fun d => d.parameters.length) = some 1 := by decide +kernel
theorem d_Row_has_0 : decode (mC m_Row_has) 0 = .ok (.iload_n 1, 1) := by decide +kernel
theorem d_Row_has_1 : decode (mC m_Row_has) 1 = .ok (.ifCond .lt 15, 3) := by decide +kernel
theorem d_Row_has_4 : decode (mC m_Row_has) 4 = .ok (.iload_n 1, 1) := by decide +kernel
theorem d_Row_has_5 : decode (mC m_Row_has) 5 = .ok (.aload_n 0, 1) := by decide +kernel
theorem d_Row_has_6 : decode (mC m_Row_has) 6 = .ok (.getfield 13, 3) := by decide +kernel
theorem d_Row_has_9 : decode (mC m_Row_has) 9 = .ok (.if_icmp .ge 7, 3) := by decide +kernel
theorem d_Row_has_12 : decode (mC m_Row_has) 12 = .ok (.iconst 1, 1) := by decide +kernel
theorem d_Row_has_13 : decode (mC m_Row_has) 13 = .ok (.goto 4, 3) := by decide +kernel
theorem d_Row_has_16 : decode (mC m_Row_has) 16 = .ok (.iconst 0, 1) := by decide +kernel
theorem d_Row_has_17 : decode (mC m_Row_has) 17 = .ok (.ireturn, 1) := by decide +kernel
def b_Row_has_16 (F : Nat) (w : zW) : Option (Int32 × zW) := some ((0 : Int32), w)
set_option maxRecDepth 100000 in
set_option maxHeartbeats 4000000 in
theorem b_Row_has_16_ok (G : zG) (F : Nat) (w : zW) (r : (Int32 × zW)) (h : b_Row_has_16 F w = some r) : zV G m_Row_has 16 [] [] w 0 0 (oI r.1) r.2 := by
  unfold b_Row_has_16 at h
  refine V_iconst (v := 0) d_Row_has_16 (by decide) ?_
  obtain rfl := Option.some.inj h
  exact V_zret rfl (Or.inl rfl) (by decide) (by decide) d_Row_has_17
def b_Row_has_0 (F : Nat) (v0 : Nat) (v1 : Int32) (w : zW) : Option (Int32 × zW) := if v1 < 0 then (b_Row_has_16 F w) else ((getI w v0 0 1).bind fun x6 => if x6 ≤ v1 then (b_Row_has_16 F w) else (some ((1 : Int32), w)))
set_option maxRecDepth 100000 in
set_option maxHeartbeats 4000000 in
theorem b_Row_has_0_ok (G : zG) (F : Nat) (v0 : Nat) (v1 : Int32) (w : zW) (r : (Int32 × zW)) (h : b_Row_has_0 F v0 v1 w = some r) : zV G m_Row_has 0 [(0, .ref (z0 G + v0)), (1, .int v1)] [] w 0 0 (oI r.1) r.2 := by
  unfold b_Row_has_0 at h
  refine V_iload_n (i := 1) d_Row_has_0 rfl 1 rfl ?_
  refine V_if_lt (tgt := 16) d_Row_has_1 (by decide) (fun c1 => ?_) (fun c1 => ?_)
  · rw [if_pos c1] at h
    refine V_lv [] rfl ?_
    exact b_Row_has_16_ok G F w _ h
  · rw [if_neg c1] at h
    refine V_iload_n (i := 1) d_Row_has_4 rfl 1 rfl ?_
    refine V_aload_n (i := 0) d_Row_has_5 rfl 0 rfl ?_
    obtain ⟨x6, e6, h⟩ := ob h
    refine V_getI (ci := 0) (k := 1) d_Row_has_6 e6 rfl (by decide) in_Row k41 ?_
    refine V_icmp_ge (tgt := 16) d_Row_has_9 (by decide) (fun c9 => ?_) (fun c9 => ?_)
    · rw [if_pos c9] at h
      refine V_lv [] rfl ?_
      exact b_Row_has_16_ok G F w _ h
    · rw [if_neg c9] at h
      refine V_iconst (v := 1) d_Row_has_12 (by decide) ?_
      refine V_goto (tgt := 17) d_Row_has_13 (by decide) ?_
      obtain rfl := Option.some.inj h
      exact V_zret rfl (Or.inr rfl) (by decide) (by decide) d_Row_has_17
def f_Row_has (F : Nat) (v0 : Nat) (v1 : Int32) (w : zW) : Option (Int32 × zW) := b_Row_has_0 F v0 v1 w
theorem c_Row_has (G : zG) (F : Nat) (v0 : Nat) (v1 : Int32) (w : zW) (r : (Int32 × zW)) (h : f_Row_has F v0 v1 w = some r) : zCT G m_Row_has [.ref (z0 G + v0), .int v1] w (oI r.1) r.2 := zCT.ofV (by decide +kernel) (Or.inl ⟨kc_Row_has, rfl⟩) (Nat.le_of_ble_eq_true rfl) (b_Row_has_0_ok G F v0 v1 w r h)

/-! ZipArray$Row.get(I)I -/
def m_Row_get : zM := (⟨R_Row, "get", "(I)I"⟩, prog_7_method_5_code, 2, (some .int), [], { frames := 1, cells := 0, slots := 0, locals := 21 })
theorem k403 : Cond.methodLink R_Row 21 (mY m_Row_has) ∈ zTb := tb_at 403 (by decide +kernel) rfl
theorem k404 : Cond.instanceMethod (mY m_Row_has) ∈ zTb := tb_at 404 (by decide +kernel) rfl
theorem k405 : Cond.selects R_Row (mY m_Row_has) (mY m_Row_has) ∈ zTb := tb_at 405 (by decide +kernel) rfl
theorem kc_Row_get : Cond.code (mY m_Row_get) (mC m_Row_get) (mL m_Row_get) (mT m_Row_get) ∈ zTb := tb_at 402 (by decide +kernel) rfl
theorem y_Row_get : (mY m_Row_get).cls ≠ "java/lang/invoke/MethodHandle" ∧ (mY m_Row_get).cls ≠ "java/lang/invoke/VarHandle" ∧ (parseMethodDescriptor (mY m_Row_get).desc).map (fun d => d.parameters.length) = some 1 := by decide +kernel
theorem d_Row_get_0 : decode (mC m_Row_get) 0 = .ok (.aload_n 0, 1) := by decide +kernel
theorem d_Row_get_1 : decode (mC m_Row_get) 1 = .ok (.iload_n 1, 1) := by decide +kernel
theorem d_Row_get_2 : decode (mC m_Row_get) 2 = .ok (.invokevirtual 21, 3) := by decide +kernel
theorem d_Row_get_5 : decode (mC m_Row_get) 5 = .ok (.ifCond .eq 12, 3) := by decide +kernel
theorem d_Row_get_8 : decode (mC m_Row_get) 8 = .ok (.aload_n 0, 1) := by decide +kernel
theorem d_Row_get_9 : decode (mC m_Row_get) 9 = .ok (.getfield 7, 3) := by decide +kernel
theorem d_Row_get_12 : decode (mC m_Row_get) 12 = .ok (.iload_n 1, 1) := by decide +kernel
theorem d_Row_get_13 : decode (mC m_Row_get) 13 = .ok (.iaload, 1) := by decide +kernel
theorem d_Row_get_14 : decode (mC m_Row_get) 14 = .ok (.goto 4, 3) := by decide +kernel
theorem d_Row_get_17 : decode (mC m_Row_get) 17 = .ok (.iconst 0, 1) := by decide +kernel
theorem d_Row_get_18 : decode (mC m_Row_get) 18 = .ok (.ireturn, 1) := by decide +kernel
def b_Row_get_0 (F : Nat) (v0 : Nat) (v1 : Int32) (w : zW) : Option (Int32 × zW) := (zobj w v0 0).bind fun _ => (f_Row_has F v0 v1 w).bind fun r2 => if r2.1 = 0 then (some ((0 : Int32), r2.2)) else ((getR r2.2 v0 0 0).bind fun x9 => (aget r2.2 x9 v1).bind fun x13 => some (x13, r2.2))
set_option maxRecDepth 100000 in
set_option maxHeartbeats 4000000 in
theorem b_Row_get_0_ok (G : zG) (F : Nat) (v0 : Nat) (v1 : Int32) (w : zW) (r : (Int32 × zW)) (h : b_Row_get_0 F v0 v1 w = some r) : zV G m_Row_get 0 [(0, .ref (z0 G + v0)), (1, .int v1)] [] w 0 0 (oI r.1) r.2 := by
  unfold b_Row_get_0 at h
  refine V_aload_n (i := 0) d_Row_get_0 rfl 0 rfl ?_
  refine V_iload_n (i := 1) d_Row_get_1 rfl 1 rfl ?_
  obtain ⟨_, eo2, h⟩ := ob h
  obtain ⟨r2, e2, h⟩ := ob h
  refine V_call (v := some (.int r2.1)) (st := []) (inv_V (N := m_Row_has) (As := [.int v1]) (ci := 0) d_Row_get_2 eo2 rfl k403 k404 k405 kc_Row_has y_Row_has) ⟨Or.inl kc_Row_has, k2, by decide, by decide⟩ (by decide) (by decide) (by decide) (c_Row_has G F v0 v1 w r2 e2) ?_
  refine V_if_eq (tgt := 17) d_Row_get_5 (by decide) (fun c5 => ?_) (fun c5 => ?_)
  · rw [if_pos c5] at h
    refine V_iconst (v := 0) d_Row_get_17 (by decide) ?_
    obtain rfl := Option.some.inj h
    exact V_iret rfl (by decide) (by decide) d_Row_get_18
  · rw [if_neg c5] at h
    refine V_aload_n (i := 0) d_Row_get_8 rfl 0 rfl ?_
    obtain ⟨x9, e9, h⟩ := ob h
    refine V_getR (ci := 0) (k := 0) d_Row_get_9 e9 rfl (by decide) in_Row k36 ?_
    refine V_iload_n (i := 1) d_Row_get_12 rfl 1 rfl ?_
    obtain ⟨x13, e13, h⟩ := ob h
    refine V_aget d_Row_get_13 e13 ?_
    refine V_goto (tgt := 18) d_Row_get_14 (by decide) ?_
    obtain rfl := Option.some.inj h
    exact V_iret rfl (by decide) (by decide) d_Row_get_18
def f_Row_get (F : Nat) (v0 : Nat) (v1 : Int32) (w : zW) : Option (Int32 × zW) := b_Row_get_0 F v0 v1 w
theorem c_Row_get (G : zG) (F : Nat) (v0 : Nat) (v1 : Int32) (w : zW) (r : (Int32 × zW)) (h : f_Row_get F v0 v1 w = some r) : zCT G m_Row_get [.ref (z0 G + v0), .int v1] w (oI r.1) r.2 := zCT.ofV (by decide +kernel) (Or.inl ⟨kc_Row_get, rfl⟩) (Nat.le_of_ble_eq_true rfl) (b_Row_get_0_ok G F v0 v1 w r h)

/-! ZipArray$Row.checksum()I -/
def m_Row_checksum : zM := (⟨R_Row, "checksum", "()I"⟩, prog_7_method_12_code, 4, (some .int), [], { frames := 0, cells := 0, slots := 0, locals := 0 })
theorem k303 : Cond.constant R_Row 45 (-306674912) ∈ zTb := tb_at 303 (by decide +kernel) rfl
theorem kc_Row_checksum : Cond.code (mY m_Row_checksum) (mC m_Row_checksum) (mL m_Row_checksum) (mT m_Row_checksum) ∈ zTb := tb_at 302 (by decide +kernel) rfl
theorem y_Row_checksum : (mY m_Row_checksum).cls ≠ "java/lang/invoke/MethodHandle" ∧ (mY m_Row_checksum).cls ≠ "java/lang/invoke/VarHandle" ∧ (parseMethodDescriptor (mY m_Row_checksum).desc).map (fun d => d.parameters.length) = some 0 := by decide +kernel
theorem d_Row_checksum_0 : decode (mC m_Row_checksum) 0 = .ok (.iconst (-1), 1) := by decide +kernel
theorem d_Row_checksum_1 : decode (mC m_Row_checksum) 1 = .ok (.istore_n 1, 1) := by decide +kernel
theorem d_Row_checksum_2 : decode (mC m_Row_checksum) 2 = .ok (.iconst 0, 1) := by decide +kernel
theorem d_Row_checksum_3 : decode (mC m_Row_checksum) 3 = .ok (.istore_n 2, 1) := by decide +kernel
theorem d_Row_checksum_4 : decode (mC m_Row_checksum) 4 = .ok (.iload_n 2, 1) := by decide +kernel
theorem d_Row_checksum_5 : decode (mC m_Row_checksum) 5 = .ok (.aload_n 0, 1) := by decide +kernel
theorem d_Row_checksum_6 : decode (mC m_Row_checksum) 6 = .ok (.getfield 13, 3) := by decide +kernel
theorem d_Row_checksum_9 : decode (mC m_Row_checksum) 9 = .ok (.if_icmp .ge 52, 3) := by decide +kernel
theorem d_Row_checksum_12 : decode (mC m_Row_checksum) 12 = .ok (.iload_n 1, 1) := by decide +kernel
theorem d_Row_checksum_13 : decode (mC m_Row_checksum) 13 = .ok (.aload_n 0, 1) := by decide +kernel
theorem d_Row_checksum_14 : decode (mC m_Row_checksum) 14 = .ok (.getfield 7, 3) := by decide +kernel
theorem d_Row_checksum_17 : decode (mC m_Row_checksum) 17 = .ok (.iload_n 2, 1) := by decide +kernel
theorem d_Row_checksum_18 : decode (mC m_Row_checksum) 18 = .ok (.iaload, 1) := by decide +kernel
theorem d_Row_checksum_19 : decode (mC m_Row_checksum) 19 = .ok (.ixor, 1) := by decide +kernel
theorem d_Row_checksum_20 : decode (mC m_Row_checksum) 20 = .ok (.istore_n 1, 1) := by decide +kernel
theorem d_Row_checksum_21 : decode (mC m_Row_checksum) 21 = .ok (.iconst 0, 1) := by decide +kernel
theorem d_Row_checksum_22 : decode (mC m_Row_checksum) 22 = .ok (.istore_n 3, 1) := by decide +kernel
theorem d_Row_checksum_23 : decode (mC m_Row_checksum) 23 = .ok (.iload_n 3, 1) := by decide +kernel
theorem d_Row_checksum_24 : decode (mC m_Row_checksum) 24 = .ok (.bipush 8, 2) := by decide +kernel
theorem d_Row_checksum_26 : decode (mC m_Row_checksum) 26 = .ok (.if_icmp .ge 29, 3) := by decide +kernel
theorem d_Row_checksum_29 : decode (mC m_Row_checksum) 29 = .ok (.iload_n 1, 1) := by decide +kernel
theorem d_Row_checksum_30 : decode (mC m_Row_checksum) 30 = .ok (.iconst 1, 1) := by decide +kernel
theorem d_Row_checksum_31 : decode (mC m_Row_checksum) 31 = .ok (.iand, 1) := by decide +kernel
theorem d_Row_checksum_32 : decode (mC m_Row_checksum) 32 = .ok (.iconst 1, 1) := by decide +kernel
theorem d_Row_checksum_33 : decode (mC m_Row_checksum) 33 = .ok (.if_icmp .ne 12, 3) := by decide +kernel
theorem d_Row_checksum_36 : decode (mC m_Row_checksum) 36 = .ok (.iload_n 1, 1) := by decide +kernel
theorem d_Row_checksum_37 : decode (mC m_Row_checksum) 37 = .ok (.iconst 1, 1) := by decide +kernel
theorem d_Row_checksum_38 : decode (mC m_Row_checksum) 38 = .ok (.iushr, 1) := by decide +kernel
theorem d_Row_checksum_39 : decode (mC m_Row_checksum) 39 = .ok (.ldc 45, 2) := by decide +kernel
theorem d_Row_checksum_41 : decode (mC m_Row_checksum) 41 = .ok (.ixor, 1) := by decide +kernel
theorem d_Row_checksum_42 : decode (mC m_Row_checksum) 42 = .ok (.goto 6, 3) := by decide +kernel
theorem d_Row_checksum_45 : decode (mC m_Row_checksum) 45 = .ok (.iload_n 1, 1) := by decide +kernel
theorem d_Row_checksum_46 : decode (mC m_Row_checksum) 46 = .ok (.iconst 1, 1) := by decide +kernel
theorem d_Row_checksum_47 : decode (mC m_Row_checksum) 47 = .ok (.iushr, 1) := by decide +kernel
theorem d_Row_checksum_48 : decode (mC m_Row_checksum) 48 = .ok (.istore_n 1, 1) := by decide +kernel
theorem d_Row_checksum_49 : decode (mC m_Row_checksum) 49 = .ok (.iinc 3 1, 3) := by decide +kernel
theorem d_Row_checksum_52 : decode (mC m_Row_checksum) 52 = .ok (.goto (-29), 3) := by decide +kernel
theorem d_Row_checksum_55 : decode (mC m_Row_checksum) 55 = .ok (.iinc 2 1, 3) := by decide +kernel
theorem d_Row_checksum_58 : decode (mC m_Row_checksum) 58 = .ok (.goto (-54), 3) := by decide +kernel
theorem d_Row_checksum_61 : decode (mC m_Row_checksum) 61 = .ok (.iconst (-1), 1) := by decide +kernel
theorem d_Row_checksum_62 : decode (mC m_Row_checksum) 62 = .ok (.iload_n 1, 1) := by decide +kernel
theorem d_Row_checksum_63 : decode (mC m_Row_checksum) 63 = .ok (.isub, 1) := by decide +kernel
theorem d_Row_checksum_64 : decode (mC m_Row_checksum) 64 = .ok (.ireturn, 1) := by decide +kernel
def b_Row_checksum_48 (F : Nat) (K4 : Nat → Int32 → Int32 → zW → Option (Int32 × zW)) (K23 : Nat → Int32 → Int32 → Int32 → zW → Option (Int32 × zW)) (v0 : Nat) (v2 : Int32) (v3 : Int32) (s0 : Int32) (w : zW) : Option (Int32 × zW) := K23 v0 s0 v2 (v3 + (1 : Int32)) w
set_option maxRecDepth 100000 in
set_option maxHeartbeats 4000000 in
theorem b_Row_checksum_48_ok (G : zG) (F : Nat) (K4 : Nat → Int32 → Int32 → zW → Option (Int32 × zW)) (K23 : Nat → Int32 → Int32 → Int32 → zW → Option (Int32 × zW)) (hK4 : ∀ (v0 : Nat) (v1 : Int32) (v2 : Int32) (w : zW) (r : (Int32 × zW)), K4 v0 v1 v2 w = some r → zV G m_Row_checksum 4 [(0, .ref (z0 G + v0)), (1, .int v1), (2, .int v2)] [] w 0 0 (oI r.1) r.2) (hK23 : ∀ (v0 : Nat) (v1 : Int32) (v2 : Int32) (v3 : Int32) (w : zW) (r : (Int32 × zW)), K23 v0 v1 v2 v3 w = some r → zV G m_Row_checksum 23 [(0, .ref (z0 G + v0)), (1, .int v1), (2, .int v2), (3, .int v3)] [] w 0 0 (oI r.1) r.2) (v0 : Nat) (v2 : Int32) (v3 : Int32) (s0 : Int32) (w : zW) (r : (Int32 × zW)) (h : b_Row_checksum_48 F K4 K23 v0 v2 v3 s0 w = some r) : zV G m_Row_checksum 48 [(0, .ref (z0 G + v0)), (2, .int v2), (3, .int v3)] [.int s0] w 0 0 (oI r.1) r.2 := by
  unfold b_Row_checksum_48 at h
  refine V_istore_n (i := 1) d_Row_checksum_48 rfl (by decide) rfl ?_
  refine V_iinc (i := 3) (v := (v3 + (1 : Int32))) d_Row_checksum_49 3 rfl (congrArg (fun y => v3 + y) (by decide : Int32.ofInt (1) = (1 : Int32))) (by decide) rfl ?_
  refine V_goto (tgt := 23) d_Row_checksum_52 (by decide) ?_
  refine V_lv [2, 1, 3, 0] rfl ?_
  exact hK23 v0 s0 v2 (v3 + (1 : Int32)) w _ h
def b_Row_checksum_23 (F : Nat) (K4 : Nat → Int32 → Int32 → zW → Option (Int32 × zW)) (K23 : Nat → Int32 → Int32 → Int32 → zW → Option (Int32 × zW)) (v0 : Nat) (v1 : Int32) (v2 : Int32) (v3 : Int32) (w : zW) : Option (Int32 × zW) := if (8 : Int32) ≤ v3 then (K4 v0 v1 (v2 + (1 : Int32)) w) else (if (v1 &&& (1 : Int32)) = (1 : Int32) then (b_Row_checksum_48 F K4 K23 v0 v2 v3 ((v1.toUInt32 >>> ((1 : Int32).toUInt32 &&& Int32.toUInt32 31)).toInt32 ^^^ (-306674912 : Int32)) w) else (b_Row_checksum_48 F K4 K23 v0 v2 v3 (v1.toUInt32 >>> ((1 : Int32).toUInt32 &&& Int32.toUInt32 31)).toInt32 w))
set_option maxRecDepth 100000 in
set_option maxHeartbeats 4000000 in
theorem b_Row_checksum_23_ok (G : zG) (F : Nat) (K4 : Nat → Int32 → Int32 → zW → Option (Int32 × zW)) (K23 : Nat → Int32 → Int32 → Int32 → zW → Option (Int32 × zW)) (hK4 : ∀ (v0 : Nat) (v1 : Int32) (v2 : Int32) (w : zW) (r : (Int32 × zW)), K4 v0 v1 v2 w = some r → zV G m_Row_checksum 4 [(0, .ref (z0 G + v0)), (1, .int v1), (2, .int v2)] [] w 0 0 (oI r.1) r.2) (hK23 : ∀ (v0 : Nat) (v1 : Int32) (v2 : Int32) (v3 : Int32) (w : zW) (r : (Int32 × zW)), K23 v0 v1 v2 v3 w = some r → zV G m_Row_checksum 23 [(0, .ref (z0 G + v0)), (1, .int v1), (2, .int v2), (3, .int v3)] [] w 0 0 (oI r.1) r.2) (v0 : Nat) (v1 : Int32) (v2 : Int32) (v3 : Int32) (w : zW) (r : (Int32 × zW)) (h : b_Row_checksum_23 F K4 K23 v0 v1 v2 v3 w = some r) : zV G m_Row_checksum 23 [(0, .ref (z0 G + v0)), (1, .int v1), (2, .int v2), (3, .int v3)] [] w 0 0 (oI r.1) r.2 := by
  unfold b_Row_checksum_23 at h
  refine V_iload_n (i := 3) d_Row_checksum_23 rfl 3 rfl ?_
  refine V_bipush (v := 8) d_Row_checksum_24 (by decide) ?_
  refine V_icmp_ge (tgt := 55) d_Row_checksum_26 (by decide) (fun c26 => ?_) (fun c26 => ?_)
  · rw [if_pos c26] at h
    refine V_iinc (i := 2) (v := (v2 + (1 : Int32))) d_Row_checksum_55 2 rfl (congrArg (fun y => v2 + y) (by decide : Int32.ofInt (1) = (1 : Int32))) (by decide) rfl ?_
    refine V_goto (tgt := 4) d_Row_checksum_58 (by decide) ?_
    refine V_lv [1, 2, 0] rfl ?_
    exact hK4 v0 v1 (v2 + (1 : Int32)) w _ h
  · rw [if_neg c26] at h
    refine V_iload_n (i := 1) d_Row_checksum_29 rfl 1 rfl ?_
    refine V_iconst (v := 1) d_Row_checksum_30 (by decide) ?_
    refine V_iand d_Row_checksum_31 ?_
    refine V_iconst (v := 1) d_Row_checksum_32 (by decide) ?_
    refine V_icmp_ne (tgt := 45) d_Row_checksum_33 (by decide) (fun c33 => ?_) (fun c33 => ?_)
    · rw [if_neg c33] at h
      refine V_iload_n (i := 1) d_Row_checksum_45 rfl 1 rfl ?_
      refine V_iconst (v := 1) d_Row_checksum_46 (by decide) ?_
      refine V_iushr d_Row_checksum_47 ?_
      refine V_lv [0, 2, 3] rfl ?_
      exact b_Row_checksum_48_ok G F K4 K23 hK4 hK23 v0 v2 v3 (v1.toUInt32 >>> ((1 : Int32).toUInt32 &&& Int32.toUInt32 31)).toInt32 w _ h
    · rw [if_pos c33] at h
      refine V_iload_n (i := 1) d_Row_checksum_36 rfl 1 rfl ?_
      refine V_iconst (v := 1) d_Row_checksum_37 (by decide) ?_
      refine V_iushr d_Row_checksum_38 ?_
      refine V_ldc (v := -306674912) d_Row_checksum_39 k303 ?_
      refine V_ixor d_Row_checksum_41 ?_
      refine V_goto (tgt := 48) d_Row_checksum_42 (by decide) ?_
      refine V_lv [0, 2, 3] rfl ?_
      exact b_Row_checksum_48_ok G F K4 K23 hK4 hK23 v0 v2 v3 ((v1.toUInt32 >>> ((1 : Int32).toUInt32 &&& Int32.toUInt32 31)).toInt32 ^^^ (-306674912 : Int32)) w _ h
def l_Row_checksum_23 (F : Nat) (K4 : Nat → Int32 → Int32 → zW → Option (Int32 × zW)) : Nat → Nat → Int32 → Int32 → Int32 → zW → Option (Int32 × zW)
  | 0 => fun _ _ _ _ _ => none
  | n + 1 => b_Row_checksum_23 F K4 (l_Row_checksum_23 F K4 n)
theorem l_Row_checksum_23_ok (G : zG) (F : Nat) (K4 : Nat → Int32 → Int32 → zW → Option (Int32 × zW)) (hK4 : ∀ (v0 : Nat) (v1 : Int32) (v2 : Int32) (w : zW) (r : (Int32 × zW)), K4 v0 v1 v2 w = some r → zV G m_Row_checksum 4 [(0, .ref (z0 G + v0)), (1, .int v1), (2, .int v2)] [] w 0 0 (oI r.1) r.2) (n : Nat) :  ∀ (v0 : Nat) (v1 : Int32) (v2 : Int32) (v3 : Int32) (w : zW) (r : (Int32 × zW)), l_Row_checksum_23 F K4 n v0 v1 v2 v3 w = some r → zV G m_Row_checksum 23 [(0, .ref (z0 G + v0)), (1, .int v1), (2, .int v2), (3, .int v3)] [] w 0 0 (oI r.1) r.2 := by
  induction n with
  | zero => intro v0 v1 v2 v3 w r h; exact nomatch (show (none : Option (Int32 × zW)) = some r from h)
  | succ n ih => intro v0 v1 v2 v3 w r h; exact b_Row_checksum_23_ok G F K4 (l_Row_checksum_23 F K4 n) hK4 ih v0 v1 v2 v3 w r h
def b_Row_checksum_4 (F : Nat) (K4 : Nat → Int32 → Int32 → zW → Option (Int32 × zW)) (v0 : Nat) (v1 : Int32) (v2 : Int32) (w : zW) : Option (Int32 × zW) := (getI w v0 0 1).bind fun x6 => if x6 ≤ v2 then (some (((-1 : Int32) - v1), w)) else ((getR w v0 0 0).bind fun x14 => (aget w x14 v2).bind fun x18 => l_Row_checksum_23 F K4 F v0 (v1 ^^^ x18) v2 (0 : Int32) w)
set_option maxRecDepth 100000 in
set_option maxHeartbeats 4000000 in
theorem b_Row_checksum_4_ok (G : zG) (F : Nat) (K4 : Nat → Int32 → Int32 → zW → Option (Int32 × zW)) (hK4 : ∀ (v0 : Nat) (v1 : Int32) (v2 : Int32) (w : zW) (r : (Int32 × zW)), K4 v0 v1 v2 w = some r → zV G m_Row_checksum 4 [(0, .ref (z0 G + v0)), (1, .int v1), (2, .int v2)] [] w 0 0 (oI r.1) r.2) (v0 : Nat) (v1 : Int32) (v2 : Int32) (w : zW) (r : (Int32 × zW)) (h : b_Row_checksum_4 F K4 v0 v1 v2 w = some r) : zV G m_Row_checksum 4 [(0, .ref (z0 G + v0)), (1, .int v1), (2, .int v2)] [] w 0 0 (oI r.1) r.2 := by
  unfold b_Row_checksum_4 at h
  refine V_iload_n (i := 2) d_Row_checksum_4 rfl 2 rfl ?_
  refine V_aload_n (i := 0) d_Row_checksum_5 rfl 0 rfl ?_
  obtain ⟨x6, e6, h⟩ := ob h
  refine V_getI (ci := 0) (k := 1) d_Row_checksum_6 e6 rfl (by decide) in_Row k41 ?_
  refine V_icmp_ge (tgt := 61) d_Row_checksum_9 (by decide) (fun c9 => ?_) (fun c9 => ?_)
  · rw [if_pos c9] at h
    refine V_iconst (v := -1) d_Row_checksum_61 (by decide) ?_
    refine V_iload_n (i := 1) d_Row_checksum_62 rfl 1 rfl ?_
    refine V_isub d_Row_checksum_63 ?_
    obtain rfl := Option.some.inj h
    exact V_iret rfl (by decide) (by decide) d_Row_checksum_64
  · rw [if_neg c9] at h
    refine V_iload_n (i := 1) d_Row_checksum_12 rfl 1 rfl ?_
    refine V_aload_n (i := 0) d_Row_checksum_13 rfl 0 rfl ?_
    obtain ⟨x14, e14, h⟩ := ob h
    refine V_getR (ci := 0) (k := 0) d_Row_checksum_14 e14 rfl (by decide) in_Row k36 ?_
    refine V_iload_n (i := 2) d_Row_checksum_17 rfl 2 rfl ?_
    obtain ⟨x18, e18, h⟩ := ob h
    refine V_aget d_Row_checksum_18 e18 ?_
    refine V_ixor d_Row_checksum_19 ?_
    refine V_istore_n (i := 1) d_Row_checksum_20 rfl (by decide) rfl ?_
    refine V_iconst (v := 0) d_Row_checksum_21 (by decide) ?_
    refine V_istore_n (i := 3) d_Row_checksum_22 rfl (by decide) rfl ?_
    refine V_lv [2, 1, 3, 0] rfl ?_
    exact l_Row_checksum_23_ok G F K4 hK4 F v0 (v1 ^^^ x18) v2 (0 : Int32) w _ h
def l_Row_checksum_4 (F : Nat) : Nat → Nat → Int32 → Int32 → zW → Option (Int32 × zW)
  | 0 => fun _ _ _ _ => none
  | n + 1 => b_Row_checksum_4 F (l_Row_checksum_4 F n)
theorem l_Row_checksum_4_ok (G : zG) (F : Nat) (n : Nat) :  ∀ (v0 : Nat) (v1 : Int32) (v2 : Int32) (w : zW) (r : (Int32 × zW)), l_Row_checksum_4 F n v0 v1 v2 w = some r → zV G m_Row_checksum 4 [(0, .ref (z0 G + v0)), (1, .int v1), (2, .int v2)] [] w 0 0 (oI r.1) r.2 := by
  induction n with
  | zero => intro v0 v1 v2 w r h; exact nomatch (show (none : Option (Int32 × zW)) = some r from h)
  | succ n ih => intro v0 v1 v2 w r h; exact b_Row_checksum_4_ok G F (l_Row_checksum_4 F n) ih v0 v1 v2 w r h
def b_Row_checksum_0 (F : Nat) (v0 : Nat) (w : zW) : Option (Int32 × zW) := l_Row_checksum_4 F F v0 (-1 : Int32) (0 : Int32) w
set_option maxRecDepth 100000 in
set_option maxHeartbeats 4000000 in
theorem b_Row_checksum_0_ok (G : zG) (F : Nat) (v0 : Nat) (w : zW) (r : (Int32 × zW)) (h : b_Row_checksum_0 F v0 w = some r) : zV G m_Row_checksum 0 [(0, .ref (z0 G + v0))] [] w 0 0 (oI r.1) r.2 := by
  unfold b_Row_checksum_0 at h
  refine V_iconst (v := -1) d_Row_checksum_0 (by decide) ?_
  refine V_istore_n (i := 1) d_Row_checksum_1 rfl (by decide) rfl ?_
  refine V_iconst (v := 0) d_Row_checksum_2 (by decide) ?_
  refine V_istore_n (i := 2) d_Row_checksum_3 rfl (by decide) rfl ?_
  refine V_lv [2, 1, 0] rfl ?_
  exact l_Row_checksum_4_ok G F F v0 (-1 : Int32) (0 : Int32) w _ h
def f_Row_checksum (F : Nat) (v0 : Nat) (w : zW) : Option (Int32 × zW) := b_Row_checksum_0 F v0 w
theorem c_Row_checksum (G : zG) (F : Nat) (v0 : Nat) (w : zW) (r : (Int32 × zW)) (h : f_Row_checksum F v0 w = some r) : zCT G m_Row_checksum [.ref (z0 G + v0)] w (oI r.1) r.2 := zCT.ofV (by decide +kernel) (Or.inl ⟨kc_Row_checksum, rfl⟩) (Nat.le_of_ble_eq_true rfl) (b_Row_checksum_0_ok G F v0 w r h)

/-! ZipArray$Row.appendPart(LZipArray$Row;II)V -/
def m_Row_appendPart : zM := (⟨R_Row, "appendPart", "(LZipArray$Row;II)V"⟩, prog_7_method_9_code, 4, none, [], { frames := 1, cells := 0, slots := 0, locals := 28 })
theorem k317 : Cond.methodLink R_Row 29 (mY m_Row_hasRoom) ∈ zTb := tb_at 317 (by decide +kernel) rfl
theorem k318 : Cond.instanceMethod (mY m_Row_hasRoom) ∈ zTb := tb_at 318 (by decide +kernel) rfl
theorem k319 : Cond.selects R_Row (mY m_Row_hasRoom) (mY m_Row_hasRoom) ∈ zTb := tb_at 319 (by decide +kernel) rfl
theorem k321 : Cond.methodLink R_Row 32 arraycopyName ∈ zTb := tb_at 321 (by decide +kernel) rfl
theorem kc_Row_appendPart : Cond.code (mY m_Row_appendPart) (mC m_Row_appendPart) (mL m_Row_appendPart) (mT m_Row_appendPart) ∈ zTb := tb_at 316 (by decide +kernel) rfl
theorem y_Row_appendPart : (mY m_Row_appendPart).cls ≠ "java/lang/invoke/MethodHandle" ∧ (mY m_Row_appendPart).cls ≠ "java/lang/invoke/VarHandle" ∧ (parseMethodDescriptor (mY m_Row_appendPart).desc).map (fun d => d.parameters.length) = some 3 := by decide +kernel
theorem d_Row_appendPart_0 : decode (mC m_Row_appendPart) 0 = .ok (.iload_n 2, 1) := by decide +kernel
theorem d_Row_appendPart_1 : decode (mC m_Row_appendPart) 1 = .ok (.ifCond .lt 26, 3) := by decide +kernel
theorem d_Row_appendPart_4 : decode (mC m_Row_appendPart) 4 = .ok (.iload_n 3, 1) := by decide +kernel
theorem d_Row_appendPart_5 : decode (mC m_Row_appendPart) 5 = .ok (.iload_n 2, 1) := by decide +kernel
theorem d_Row_appendPart_6 : decode (mC m_Row_appendPart) 6 = .ok (.if_icmp .lt 21, 3) := by decide +kernel
theorem d_Row_appendPart_9 : decode (mC m_Row_appendPart) 9 = .ok (.iload_n 3, 1) := by decide +kernel
theorem d_Row_appendPart_10 : decode (mC m_Row_appendPart) 10 = .ok (.aload_n 1, 1) := by decide +kernel
theorem d_Row_appendPart_11 : decode (mC m_Row_appendPart) 11 = .ok (.getfield 13, 3) := by decide +kernel
theorem d_Row_appendPart_14 : decode (mC m_Row_appendPart) 14 = .ok (.if_icmp .gt 13, 3) := by decide +kernel
theorem d_Row_appendPart_17 : decode (mC m_Row_appendPart) 17 = .ok (.aload_n 0, 1) := by decide +kernel
theorem d_Row_appendPart_18 : decode (mC m_Row_appendPart) 18 = .ok (.iload_n 3, 1) := by decide +kernel
theorem d_Row_appendPart_19 : decode (mC m_Row_appendPart) 19 = .ok (.iload_n 2, 1) := by decide +kernel
theorem d_Row_appendPart_20 : decode (mC m_Row_appendPart) 20 = .ok (.isub, 1) := by decide +kernel
theorem d_Row_appendPart_21 : decode (mC m_Row_appendPart) 21 = .ok (.invokevirtual 29, 3) := by decide +kernel
theorem d_Row_appendPart_24 : decode (mC m_Row_appendPart) 24 = .ok (.ifCond .ne 9, 3) := by decide +kernel
theorem d_Row_appendPart_27 : decode (mC m_Row_appendPart) 27 = .ok (.aload_n 0, 1) := by decide +kernel
theorem d_Row_appendPart_28 : decode (mC m_Row_appendPart) 28 = .ok (.iconst 1, 1) := by decide +kernel
theorem d_Row_appendPart_29 : decode (mC m_Row_appendPart) 29 = .ok (.putfield 17, 3) := by decide +kernel
theorem d_Row_appendPart_32 : decode (mC m_Row_appendPart) 32 = .ok (.return_, 1) := by decide +kernel
theorem d_Row_appendPart_33 : decode (mC m_Row_appendPart) 33 = .ok (.aload_n 1, 1) := by decide +kernel
theorem d_Row_appendPart_34 : decode (mC m_Row_appendPart) 34 = .ok (.getfield 7, 3) := by decide +kernel
theorem d_Row_appendPart_37 : decode (mC m_Row_appendPart) 37 = .ok (.iload_n 2, 1) := by decide +kernel
theorem d_Row_appendPart_38 : decode (mC m_Row_appendPart) 38 = .ok (.aload_n 0, 1) := by decide +kernel
theorem d_Row_appendPart_39 : decode (mC m_Row_appendPart) 39 = .ok (.getfield 7, 3) := by decide +kernel
theorem d_Row_appendPart_42 : decode (mC m_Row_appendPart) 42 = .ok (.aload_n 0, 1) := by decide +kernel
theorem d_Row_appendPart_43 : decode (mC m_Row_appendPart) 43 = .ok (.getfield 13, 3) := by decide +kernel
theorem d_Row_appendPart_46 : decode (mC m_Row_appendPart) 46 = .ok (.iload_n 3, 1) := by decide +kernel
theorem d_Row_appendPart_47 : decode (mC m_Row_appendPart) 47 = .ok (.iload_n 2, 1) := by decide +kernel
theorem d_Row_appendPart_48 : decode (mC m_Row_appendPart) 48 = .ok (.isub, 1) := by decide +kernel
theorem d_Row_appendPart_49 : decode (mC m_Row_appendPart) 49 = .ok (.invokestatic 32, 3) := by decide +kernel
theorem d_Row_appendPart_52 : decode (mC m_Row_appendPart) 52 = .ok (.aload_n 0, 1) := by decide +kernel
theorem d_Row_appendPart_53 : decode (mC m_Row_appendPart) 53 = .ok (.dup, 1) := by decide +kernel
theorem d_Row_appendPart_54 : decode (mC m_Row_appendPart) 54 = .ok (.getfield 13, 3) := by decide +kernel
theorem d_Row_appendPart_57 : decode (mC m_Row_appendPart) 57 = .ok (.iload_n 3, 1) := by decide +kernel
theorem d_Row_appendPart_58 : decode (mC m_Row_appendPart) 58 = .ok (.iload_n 2, 1) := by decide +kernel
theorem d_Row_appendPart_59 : decode (mC m_Row_appendPart) 59 = .ok (.isub, 1) := by decide +kernel
theorem d_Row_appendPart_60 : decode (mC m_Row_appendPart) 60 = .ok (.iadd, 1) := by decide +kernel
theorem d_Row_appendPart_61 : decode (mC m_Row_appendPart) 61 = .ok (.putfield 13, 3) := by decide +kernel
theorem d_Row_appendPart_64 : decode (mC m_Row_appendPart) 64 = .ok (.return_, 1) := by decide +kernel
def b_Row_appendPart_27 (F : Nat) (v0 : Nat) (w : zW) : Option (Unit × zW) := (putI w v0 0 2 (1 : Int32)).bind fun w29 => some ((), w29)
set_option maxRecDepth 100000 in
set_option maxHeartbeats 4000000 in
theorem b_Row_appendPart_27_ok (G : zG) (F : Nat) (v0 : Nat) (w : zW) (r : (Unit × zW)) (h : b_Row_appendPart_27 F v0 w = some r) : zV G m_Row_appendPart 27 [(0, .ref (z0 G + v0))] [] w 0 0 (oV r.1) r.2 := by
  unfold b_Row_appendPart_27 at h
  refine V_aload_n (i := 0) d_Row_appendPart_27 rfl 0 rfl ?_
  refine V_iconst (v := 1) d_Row_appendPart_28 (by decide) ?_
  obtain ⟨w29, e29, h⟩ := ob h
  refine V_putI (ci := 0) (k := 2) t_Row d_Row_appendPart_29 e29 rfl (by decide) in_Row k47 ty_Row nm_Row rfl (Or.inr ⟨rfl, Or.inr rfl⟩) ?_
  obtain rfl := Option.some.inj h
  exact V_vret rfl (by decide) (by decide) d_Row_appendPart_32
def b_Row_appendPart_0 (F : Nat) (v0 : Nat) (v1 : Nat) (v2 : Int32) (v3 : Int32) (w : zW) : Option (Unit × zW) := if v2 < 0 then (b_Row_appendPart_27 F v0 w) else (if v3 < v2 then (b_Row_appendPart_27 F v0 w) else ((getI w v1 0 1).bind fun x11 => if x11 < v3 then (b_Row_appendPart_27 F v0 w) else ((zobj w v0 0).bind fun _ => (f_Row_hasRoom F v0 (v3 - v2) w).bind fun r21 => if r21.1 = 0 then (b_Row_appendPart_27 F v0 r21.2) else ((getR r21.2 v1 0 0).bind fun x34 => (getR r21.2 v0 0 0).bind fun x39 => (getI r21.2 v0 0 1).bind fun x43 => (acopy r21.2 x34 v2 x39 x43 (v3 - v2)).bind fun w49 => (getI w49 v0 0 1).bind fun x54 => (putI w49 v0 0 1 (x54 + (v3 - v2))).bind fun w61 => some ((), w61)))))
set_option maxRecDepth 100000 in
set_option maxHeartbeats 4000000 in
theorem b_Row_appendPart_0_ok (G : zG) (F : Nat) (v0 : Nat) (v1 : Nat) (v2 : Int32) (v3 : Int32) (w : zW) (r : (Unit × zW)) (h : b_Row_appendPart_0 F v0 v1 v2 v3 w = some r) : zV G m_Row_appendPart 0 [(0, .ref (z0 G + v0)), (1, .ref (z0 G + v1)), (2, .int v2), (3, .int v3)] [] w 0 0 (oV r.1) r.2 := by
  unfold b_Row_appendPart_0 at h
  refine V_iload_n (i := 2) d_Row_appendPart_0 rfl 2 rfl ?_
  refine V_if_lt (tgt := 27) d_Row_appendPart_1 (by decide) (fun c1 => ?_) (fun c1 => ?_)
  · rw [if_pos c1] at h
    refine V_lv [0] rfl ?_
    exact b_Row_appendPart_27_ok G F v0 w _ h
  · rw [if_neg c1] at h
    refine V_iload_n (i := 3) d_Row_appendPart_4 rfl 3 rfl ?_
    refine V_iload_n (i := 2) d_Row_appendPart_5 rfl 2 rfl ?_
    refine V_icmp_lt (tgt := 27) d_Row_appendPart_6 (by decide) (fun c6 => ?_) (fun c6 => ?_)
    · rw [if_pos c6] at h
      refine V_lv [0] rfl ?_
      exact b_Row_appendPart_27_ok G F v0 w _ h
    · rw [if_neg c6] at h
      refine V_iload_n (i := 3) d_Row_appendPart_9 rfl 3 rfl ?_
      refine V_aload_n (i := 1) d_Row_appendPart_10 rfl 1 rfl ?_
      obtain ⟨x11, e11, h⟩ := ob h
      refine V_getI (ci := 0) (k := 1) d_Row_appendPart_11 e11 rfl (by decide) in_Row k41 ?_
      refine V_icmp_gt (tgt := 27) d_Row_appendPart_14 (by decide) (fun c14 => ?_) (fun c14 => ?_)
      · rw [if_pos c14] at h
        refine V_lv [0] rfl ?_
        exact b_Row_appendPart_27_ok G F v0 w _ h
      · rw [if_neg c14] at h
        refine V_aload_n (i := 0) d_Row_appendPart_17 rfl 0 rfl ?_
        refine V_iload_n (i := 3) d_Row_appendPart_18 rfl 3 rfl ?_
        refine V_iload_n (i := 2) d_Row_appendPart_19 rfl 2 rfl ?_
        refine V_isub d_Row_appendPart_20 ?_
        obtain ⟨_, eo21, h⟩ := ob h
        obtain ⟨r21, e21, h⟩ := ob h
        refine V_call (v := some (.int r21.1)) (st := []) (inv_V (N := m_Row_hasRoom) (As := [.int (v3 - v2)]) (ci := 0) d_Row_appendPart_21 eo21 rfl k317 k318 k319 kc_Row_hasRoom y_Row_hasRoom) ⟨Or.inl kc_Row_hasRoom, k2, by decide, by decide⟩ (by decide) (by decide) (by decide) (c_Row_hasRoom G F v0 (v3 - v2) w r21 e21) ?_
        refine V_if_ne (tgt := 33) d_Row_appendPart_24 (by decide) (fun c24 => ?_) (fun c24 => ?_)
        · rw [if_neg c24] at h
          refine V_aload_n (i := 1) d_Row_appendPart_33 rfl 1 rfl ?_
          obtain ⟨x34, e34, h⟩ := ob h
          refine V_getR (ci := 0) (k := 0) d_Row_appendPart_34 e34 rfl (by decide) in_Row k36 ?_
          refine V_iload_n (i := 2) d_Row_appendPart_37 rfl 2 rfl ?_
          refine V_aload_n (i := 0) d_Row_appendPart_38 rfl 0 rfl ?_
          obtain ⟨x39, e39, h⟩ := ob h
          refine V_getR (ci := 0) (k := 0) d_Row_appendPart_39 e39 rfl (by decide) in_Row k36 ?_
          refine V_aload_n (i := 0) d_Row_appendPart_42 rfl 0 rfl ?_
          obtain ⟨x43, e43, h⟩ := ob h
          refine V_getI (ci := 0) (k := 1) d_Row_appendPart_43 e43 rfl (by decide) in_Row k41 ?_
          refine V_iload_n (i := 3) d_Row_appendPart_46 rfl 3 rfl ?_
          refine V_iload_n (i := 2) d_Row_appendPart_47 rfl 2 rfl ?_
          refine V_isub d_Row_appendPart_48 ?_
          obtain ⟨w49, e49, h⟩ := ob h
          refine V_copy d_Row_appendPart_49 e49 k321 kcpy1 kcpy2 kcpy3 (by decide) (by decide) ?_
          refine V_aload_n (i := 0) d_Row_appendPart_52 rfl 0 rfl ?_
          refine V_dup rfl d_Row_appendPart_53 ?_
          obtain ⟨x54, e54, h⟩ := ob h
          refine V_getI (ci := 0) (k := 1) d_Row_appendPart_54 e54 rfl (by decide) in_Row k41 ?_
          refine V_iload_n (i := 3) d_Row_appendPart_57 rfl 3 rfl ?_
          refine V_iload_n (i := 2) d_Row_appendPart_58 rfl 2 rfl ?_
          refine V_isub d_Row_appendPart_59 ?_
          refine V_iadd d_Row_appendPart_60 ?_
          obtain ⟨w61, e61, h⟩ := ob h
          refine V_putI (ci := 0) (k := 1) t_Row d_Row_appendPart_61 e61 rfl (by decide) in_Row k41 ty_Row nm_Row rfl (Or.inl rfl) ?_
          obtain rfl := Option.some.inj h
          exact V_vret rfl (by decide) (by decide) d_Row_appendPart_64
        · rw [if_pos c24] at h
          refine V_lv [0] rfl ?_
          exact b_Row_appendPart_27_ok G F v0 r21.2 _ h
def f_Row_appendPart (F : Nat) (v0 : Nat) (v1 : Nat) (v2 : Int32) (v3 : Int32) (w : zW) : Option (Unit × zW) := b_Row_appendPart_0 F v0 v1 v2 v3 w
theorem c_Row_appendPart (G : zG) (F : Nat) (v0 : Nat) (v1 : Nat) (v2 : Int32) (v3 : Int32) (w : zW) (r : (Unit × zW)) (h : f_Row_appendPart F v0 v1 v2 v3 w = some r) : zCT G m_Row_appendPart [.ref (z0 G + v0), .ref (z0 G + v1), .int v2, .int v3] w (oV r.1) r.2 := zCT.ofV (by decide +kernel) (Or.inl ⟨kc_Row_appendPart, rfl⟩) (Nat.le_of_ble_eq_true rfl) (b_Row_appendPart_0_ok G F v0 v1 v2 v3 w r h)

/-! ZipArray$Row.become(LZipArray$Row;)V -/
def m_Row_become : zM := (⟨R_Row, "become", "(LZipArray$Row;)V"⟩, prog_7_method_10_code, 2, none, [], { frames := 2, cells := 0, slots := 0, locals := 51 })
theorem k288 : Cond.instanceMethod (mY m_Row_empty) ∈ zTb := tb_at 288 (by decide +kernel) rfl
theorem k289 : Cond.selects R_Row (mY m_Row_empty) (mY m_Row_empty) ∈ zTb := tb_at 289 (by decide +kernel) rfl
theorem k314 : Cond.instanceMethod (mY m_Row_appendPart) ∈ zTb := tb_at 314 (by decide +kernel) rfl
theorem k315 : Cond.selects R_Row (mY m_Row_appendPart) (mY m_Row_appendPart) ∈ zTb := tb_at 315 (by decide +kernel) rfl
theorem k350 : Cond.methodLink R_Row 38 (mY m_Row_empty) ∈ zTb := tb_at 350 (by decide +kernel) rfl
theorem k351 : Cond.methodLink R_Row 41 (mY m_Row_appendPart) ∈ zTb := tb_at 351 (by decide +kernel) rfl
theorem kc_Row_become : Cond.code (mY m_Row_become) (mC m_Row_become) (mL m_Row_become) (mT m_Row_become) ∈ zTb := tb_at 349 (by decide +kernel) rfl
theorem y_Row_become : (mY m_Row_become).cls ≠ "java/lang/invoke/MethodHandle" ∧ (mY m_Row_become).cls ≠ "java/lang/invoke/VarHandle" ∧ (parseMethodDescriptor (mY m_Row_become).desc).map (fun d => d.parameters.length) = some 1 := by decide +kernel
theorem d_Row_become_0 : decode (mC m_Row_become) 0 = .ok (.aload_n 0, 1) := by decide +kernel
theorem d_Row_become_1 : decode (mC m_Row_become) 1 = .ok (.invokevirtual 38, 3) := by decide +kernel
theorem d_Row_become_4 : decode (mC m_Row_become) 4 = .ok (.aload_n 0, 1) := by decide +kernel
theorem d_Row_become_5 : decode (mC m_Row_become) 5 = .ok (.aload_n 1, 1) := by decide +kernel
theorem d_Row_become_6 : decode (mC m_Row_become) 6 = .ok (.iconst 0, 1) := by decide +kernel
theorem d_Row_become_7 : decode (mC m_Row_become) 7 = .ok (.aload_n 1, 1) := by decide +kernel
theorem d_Row_become_8 : decode (mC m_Row_become) 8 = .ok (.getfield 13, 3) := by decide +kernel
theorem d_Row_become_11 : decode (mC m_Row_become) 11 = .ok (.invokevirtual 41, 3) := by decide +kernel
theorem d_Row_become_14 : decode (mC m_Row_become) 14 = .ok (.return_, 1) := by decide +kernel
def b_Row_become_0 (F : Nat) (v0 : Nat) (v1 : Nat) (w : zW) : Option (Unit × zW) := (zobj w v0 0).bind fun _ => (f_Row_empty F v0 w).bind fun r1 => (getI r1.2 v1 0 1).bind fun x8 => (zobj r1.2 v0 0).bind fun _ => (f_Row_appendPart F v0 v1 (0 : Int32) x8 r1.2).bind fun r11 => some ((), r11.2)
set_option maxRecDepth 100000 in
set_option maxHeartbeats 4000000 in
theorem b_Row_become_0_ok (G : zG) (F : Nat) (v0 : Nat) (v1 : Nat) (w : zW) (r : (Unit × zW)) (h : b_Row_become_0 F v0 v1 w = some r) : zV G m_Row_become 0 [(0, .ref (z0 G + v0)), (1, .ref (z0 G + v1))] [] w 0 0 (oV r.1) r.2 := by
  unfold b_Row_become_0 at h
  refine V_aload_n (i := 0) d_Row_become_0 rfl 0 rfl ?_
  obtain ⟨_, eo1, h⟩ := ob h
  obtain ⟨r1, e1, h⟩ := ob h
  refine V_call (v := none) (st := []) (inv_V (N := m_Row_empty) (As := []) (ci := 0) d_Row_become_1 eo1 rfl k350 k288 k289 kc_Row_empty y_Row_empty) ⟨Or.inl kc_Row_empty, k2, by decide, by decide⟩ (by decide) (by decide) (by decide) (c_Row_empty G F v0 w r1 e1) ?_
  refine V_aload_n (i := 0) d_Row_become_4 rfl 0 rfl ?_
  refine V_aload_n (i := 1) d_Row_become_5 rfl 1 rfl ?_
  refine V_iconst (v := 0) d_Row_become_6 (by decide) ?_
  refine V_aload_n (i := 1) d_Row_become_7 rfl 1 rfl ?_
  obtain ⟨x8, e8, h⟩ := ob h
  refine V_getI (ci := 0) (k := 1) d_Row_become_8 e8 rfl (by decide) in_Row k41 ?_
  obtain ⟨_, eo11, h⟩ := ob h
  obtain ⟨r11, e11, h⟩ := ob h
  refine V_call (v := none) (st := []) (inv_V (N := m_Row_appendPart) (As := [.ref (z0 G + v1), .int (0 : Int32), .int x8]) (ci := 0) d_Row_become_11 eo11 rfl k351 k314 k315 kc_Row_appendPart y_Row_appendPart) ⟨Or.inl kc_Row_appendPart, k2, by decide, by decide⟩ (by decide) (by decide) (by decide) (c_Row_appendPart G F v0 v1 (0 : Int32) x8 r1.2 r11 e11) ?_
  obtain rfl := Option.some.inj h
  exact V_vret rfl (by decide) (by decide) d_Row_become_14
def f_Row_become (F : Nat) (v0 : Nat) (v1 : Nat) (w : zW) : Option (Unit × zW) := b_Row_become_0 F v0 v1 w
theorem c_Row_become (G : zG) (F : Nat) (v0 : Nat) (v1 : Nat) (w : zW) (r : (Unit × zW)) (h : f_Row_become F v0 v1 w = some r) : zCT G m_Row_become [.ref (z0 G + v0), .ref (z0 G + v1)] w (oV r.1) r.2 := zCT.ofV (by decide +kernel) (Or.inl ⟨kc_Row_become, rfl⟩) (Nat.le_of_ble_eq_true rfl) (b_Row_become_0_ok G F v0 v1 w r h)

/-! ZipArray$Row.appendNumber(JI)V -/
def m_Row_appendNumber : zM := (⟨R_Row, "appendNumber", "(JI)V"⟩, prog_7_method_7_code, 5, none, [], { frames := 1, cells := 0, slots := 0, locals := 21 })
theorem kc_Row_appendNumber : Cond.code (mY m_Row_appendNumber) (mC m_Row_appendNumber) (mL m_Row_appendNumber) (mT m_Row_appendNumber) ∈ zTb := tb_at 336 (by decide +kernel) rfl
theorem y_Row_appendNumber : (mY m_Row_appendNumber).cls ≠ "java/lang/invoke/MethodHandle" ∧ (mY m_Row_appendNumber).cls ≠ "java/lang/invoke/VarHandle" ∧ (parseMethodDescriptor (mY m_Row_appendNumber).desc).map (fun d => d.parameters.length) = some 2 := by decide +kernel
theorem d_Row_appendNumber_0 : decode (mC m_Row_appendNumber) 0 = .ok (.iconst 0, 1) := by decide +kernel
theorem d_Row_appendNumber_1 : decode (mC m_Row_appendNumber) 1 = .ok (.istore 4, 2) := by decide +kernel
theorem d_Row_appendNumber_3 : decode (mC m_Row_appendNumber) 3 = .ok (.iload 4, 2) := by decide +kernel
theorem d_Row_appendNumber_5 : decode (mC m_Row_appendNumber) 5 = .ok (.iload_n 3, 1) := by decide +kernel
theorem d_Row_appendNumber_6 : decode (mC m_Row_appendNumber) 6 = .ok (.if_icmp .ge 25, 3) := by decide +kernel
theorem d_Row_appendNumber_9 : decode (mC m_Row_appendNumber) 9 = .ok (.aload_n 0, 1) := by decide +kernel
theorem d_Row_appendNumber_10 : decode (mC m_Row_appendNumber) 10 = .ok (.lload_n 1, 1) := by decide +kernel
theorem d_Row_appendNumber_11 : decode (mC m_Row_appendNumber) 11 = .ok (.bipush 8, 2) := by decide +kernel
theorem d_Row_appendNumber_13 : decode (mC m_Row_appendNumber) 13 = .ok (.iload 4, 2) := by decide +kernel
theorem d_Row_appendNumber_15 : decode (mC m_Row_appendNumber) 15 = .ok (.imul, 1) := by decide +kernel
theorem d_Row_appendNumber_16 : decode (mC m_Row_appendNumber) 16 = .ok (.lushr, 1) := by decide +kernel
theorem d_Row_appendNumber_17 : decode (mC m_Row_appendNumber) 17 = .ok (.l2i, 1) := by decide +kernel
theorem d_Row_appendNumber_18 : decode (mC m_Row_appendNumber) 18 = .ok (.sipush 255, 3) := by decide +kernel
theorem d_Row_appendNumber_21 : decode (mC m_Row_appendNumber) 21 = .ok (.iand, 1) := by decide +kernel
theorem d_Row_appendNumber_22 : decode (mC m_Row_appendNumber) 22 = .ok (.invokevirtual 25, 3) := by decide +kernel
theorem d_Row_appendNumber_25 : decode (mC m_Row_appendNumber) 25 = .ok (.iinc 4 1, 3) := by decide +kernel
theorem d_Row_appendNumber_28 : decode (mC m_Row_appendNumber) 28 = .ok (.goto (-25), 3) := by decide +kernel
theorem d_Row_appendNumber_31 : decode (mC m_Row_appendNumber) 31 = .ok (.return_, 1) := by decide +kernel
def b_Row_appendNumber_3 (F : Nat) (K3 : Nat → Int64 → Int32 → Int32 → zW → Option (Unit × zW)) (v0 : Nat) (v1 : Int64) (v3 : Int32) (v4 : Int32) (w : zW) : Option (Unit × zW) := if v3 ≤ v4 then (some ((), w)) else ((zobj w v0 0).bind fun _ => (f_Row_append F v0 ((v1.toUInt64 >>> (((8 : Int32) * v4).toInt64.toUInt64 &&& Int64.toUInt64 63)).toInt64.toInt32 &&& (255 : Int32)) w).bind fun r22 => K3 v0 v1 v3 (v4 + (1 : Int32)) r22.2)
set_option maxRecDepth 100000 in
set_option maxHeartbeats 4000000 in
theorem b_Row_appendNumber_3_ok (G : zG) (F : Nat) (K3 : Nat → Int64 → Int32 → Int32 → zW → Option (Unit × zW)) (hK3 : ∀ (v0 : Nat) (v1 : Int64) (v3 : Int32) (v4 : Int32) (w : zW) (r : (Unit × zW)), K3 v0 v1 v3 v4 w = some r → zV G m_Row_appendNumber 3 [(0, .ref (z0 G + v0)), (1, .long v1), (3, .int v3), (4, .int v4)] [] w 0 0 (oV r.1) r.2) (v0 : Nat) (v1 : Int64) (v3 : Int32) (v4 : Int32) (w : zW) (r : (Unit × zW)) (h : b_Row_appendNumber_3 F K3 v0 v1 v3 v4 w = some r) : zV G m_Row_appendNumber 3 [(0, .ref (z0 G + v0)), (1, .long v1), (3, .int v3), (4, .int v4)] [] w 0 0 (oV r.1) r.2 := by
  unfold b_Row_appendNumber_3 at h
  refine V_iload (i := 4) d_Row_appendNumber_3 3 rfl ?_
  refine V_iload_n (i := 3) d_Row_appendNumber_5 rfl 2 rfl ?_
  refine V_icmp_ge (tgt := 31) d_Row_appendNumber_6 (by decide) (fun c6 => ?_) (fun c6 => ?_)
  · rw [if_pos c6] at h
    obtain rfl := Option.some.inj h
    exact V_vret rfl (by decide) (by decide) d_Row_appendNumber_31
  · rw [if_neg c6] at h
    refine V_aload_n (i := 0) d_Row_appendNumber_9 rfl 0 rfl ?_
    refine V_lload_n (i := 1) d_Row_appendNumber_10 rfl 1 rfl ?_
    refine V_bipush (v := 8) d_Row_appendNumber_11 (by decide) ?_
    refine V_iload (i := 4) d_Row_appendNumber_13 3 rfl ?_
    refine V_imul d_Row_appendNumber_15 ?_
    refine V_lushr d_Row_appendNumber_16 ?_
    refine V_l2i d_Row_appendNumber_17 ?_
    refine V_sipush (v := 255) d_Row_appendNumber_18 (by decide) ?_
    refine V_iand d_Row_appendNumber_21 ?_
    obtain ⟨_, eo22, h⟩ := ob h
    obtain ⟨r22, e22, h⟩ := ob h
    refine V_call (v := none) (st := []) (inv_V (N := m_Row_append) (As := [.int ((v1.toUInt64 >>> (((8 : Int32) * v4).toInt64.toUInt64 &&& Int64.toUInt64 63)).toInt64.toInt32 &&& (255 : Int32))]) (ci := 0) d_Row_appendNumber_22 eo22 rfl k337 k338 k339 kc_Row_append y_Row_append) ⟨Or.inl kc_Row_append, k2, by decide, by decide⟩ (by decide) (by decide) (by decide) (c_Row_append G F v0 ((v1.toUInt64 >>> (((8 : Int32) * v4).toInt64.toUInt64 &&& Int64.toUInt64 63)).toInt64.toInt32 &&& (255 : Int32)) w r22 e22) ?_
    refine V_iinc (i := 4) (v := (v4 + (1 : Int32))) d_Row_appendNumber_25 3 rfl (congrArg (fun y => v4 + y) (by decide : Int32.ofInt (1) = (1 : Int32))) (by decide) rfl ?_
    refine V_goto (tgt := 3) d_Row_appendNumber_28 (by decide) ?_
    refine V_lv [1, 2, 3, 0] rfl ?_
    exact hK3 v0 v1 v3 (v4 + (1 : Int32)) r22.2 _ h
def l_Row_appendNumber_3 (F : Nat) : Nat → Nat → Int64 → Int32 → Int32 → zW → Option (Unit × zW)
  | 0 => fun _ _ _ _ _ => none
  | n + 1 => b_Row_appendNumber_3 F (l_Row_appendNumber_3 F n)
theorem l_Row_appendNumber_3_ok (G : zG) (F : Nat) (n : Nat) :  ∀ (v0 : Nat) (v1 : Int64) (v3 : Int32) (v4 : Int32) (w : zW) (r : (Unit × zW)), l_Row_appendNumber_3 F n v0 v1 v3 v4 w = some r → zV G m_Row_appendNumber 3 [(0, .ref (z0 G + v0)), (1, .long v1), (3, .int v3), (4, .int v4)] [] w 0 0 (oV r.1) r.2 := by
  induction n with
  | zero => intro v0 v1 v3 v4 w r h; exact nomatch (show (none : Option (Unit × zW)) = some r from h)
  | succ n ih => intro v0 v1 v3 v4 w r h; exact b_Row_appendNumber_3_ok G F (l_Row_appendNumber_3 F n) ih v0 v1 v3 v4 w r h
def b_Row_appendNumber_0 (F : Nat) (v0 : Nat) (v1 : Int64) (v3 : Int32) (w : zW) : Option (Unit × zW) := l_Row_appendNumber_3 F F v0 v1 v3 (0 : Int32) w
set_option maxRecDepth 100000 in
set_option maxHeartbeats 4000000 in
theorem b_Row_appendNumber_0_ok (G : zG) (F : Nat) (v0 : Nat) (v1 : Int64) (v3 : Int32) (w : zW) (r : (Unit × zW)) (h : b_Row_appendNumber_0 F v0 v1 v3 w = some r) : zV G m_Row_appendNumber 0 [(0, .ref (z0 G + v0)), (1, .long v1), (3, .int v3)] [] w 0 0 (oV r.1) r.2 := by
  unfold b_Row_appendNumber_0 at h
  refine V_iconst (v := 0) d_Row_appendNumber_0 (by decide) ?_
  refine V_istore (i := 4) d_Row_appendNumber_1 (by decide) rfl ?_
  refine V_lv [1, 2, 3, 0] rfl ?_
  exact l_Row_appendNumber_3_ok G F F v0 v1 v3 (0 : Int32) w _ h
def f_Row_appendNumber (F : Nat) (v0 : Nat) (v1 : Int64) (v3 : Int32) (w : zW) : Option (Unit × zW) := b_Row_appendNumber_0 F v0 v1 v3 w
theorem c_Row_appendNumber (G : zG) (F : Nat) (v0 : Nat) (v1 : Int64) (v3 : Int32) (w : zW) (r : (Unit × zW)) (h : f_Row_appendNumber F v0 v1 v3 w = some r) : zCT G m_Row_appendNumber [.ref (z0 G + v0), .long v1, .int v3] w (oV r.1) r.2 := zCT.ofV (by decide +kernel) (Or.inl ⟨kc_Row_appendNumber, rfl⟩) (Nat.le_of_ble_eq_true rfl) (b_Row_appendNumber_0_ok G F v0 v1 v3 w r h)

/-! ZipArray$Row.number(II)J -/
def m_Row_number : zM := (⟨R_Row, "number", "(II)J"⟩, prog_7_method_11_code, 6, (some .long), [], { frames := 0, cells := 0, slots := 0, locals := 0 })
theorem kc_Row_number : Cond.code (mY m_Row_number) (mC m_Row_number) (mL m_Row_number) (mT m_Row_number) ∈ zTb := tb_at 371 (by decide +kernel) rfl
theorem y_Row_number : (mY m_Row_number).cls ≠ "java/lang/invoke/MethodHandle" ∧ (mY m_Row_number).cls ≠ "java/lang/invoke/VarHandle" ∧ (parseMethodDescriptor (mY m_Row_number).desc).map (fun d => d.parameters.length) = some 2 := by decide +kernel
theorem d_Row_number_0 : decode (mC m_Row_number) 0 = .ok (.iload_n 1, 1) := by decide +kernel
theorem d_Row_number_1 : decode (mC m_Row_number) 1 = .ok (.ifCond .lt 13, 3) := by decide +kernel
theorem d_Row_number_4 : decode (mC m_Row_number) 4 = .ok (.iload_n 2, 1) := by decide +kernel
theorem d_Row_number_5 : decode (mC m_Row_number) 5 = .ok (.aload_n 0, 1) := by decide +kernel
theorem d_Row_number_6 : decode (mC m_Row_number) 6 = .ok (.getfield 13, 3) := by decide +kernel
theorem d_Row_number_9 : decode (mC m_Row_number) 9 = .ok (.iload_n 1, 1) := by decide +kernel
theorem d_Row_number_10 : decode (mC m_Row_number) 10 = .ok (.isub, 1) := by decide +kernel
theorem d_Row_number_11 : decode (mC m_Row_number) 11 = .ok (.if_icmp .le 5, 3) := by decide +kernel
theorem d_Row_number_14 : decode (mC m_Row_number) 14 = .ok (.lconst 0, 1) := by decide +kernel
theorem d_Row_number_15 : decode (mC m_Row_number) 15 = .ok (.lreturn, 1) := by decide +kernel
theorem d_Row_number_16 : decode (mC m_Row_number) 16 = .ok (.lconst 0, 1) := by decide +kernel
theorem d_Row_number_17 : decode (mC m_Row_number) 17 = .ok (.lstore_n 3, 1) := by decide +kernel
theorem d_Row_number_18 : decode (mC m_Row_number) 18 = .ok (.iload_n 2, 1) := by decide +kernel
theorem d_Row_number_19 : decode (mC m_Row_number) 19 = .ok (.iconst 1, 1) := by decide +kernel
theorem d_Row_number_20 : decode (mC m_Row_number) 20 = .ok (.isub, 1) := by decide +kernel
theorem d_Row_number_21 : decode (mC m_Row_number) 21 = .ok (.istore 5, 2) := by decide +kernel
theorem d_Row_number_23 : decode (mC m_Row_number) 23 = .ok (.iload 5, 2) := by decide +kernel
theorem d_Row_number_25 : decode (mC m_Row_number) 25 = .ok (.ifCond .lt 25, 3) := by decide +kernel
theorem d_Row_number_28 : decode (mC m_Row_number) 28 = .ok (.lload_n 3, 1) := by decide +kernel
theorem d_Row_number_29 : decode (mC m_Row_number) 29 = .ok (.bipush 8, 2) := by decide +kernel
theorem d_Row_number_31 : decode (mC m_Row_number) 31 = .ok (.lshl, 1) := by decide +kernel
theorem d_Row_number_32 : decode (mC m_Row_number) 32 = .ok (.aload_n 0, 1) := by decide +kernel
theorem d_Row_number_33 : decode (mC m_Row_number) 33 = .ok (.getfield 7, 3) := by decide +kernel
theorem d_Row_number_36 : decode (mC m_Row_number) 36 = .ok (.iload_n 1, 1) := by decide +kernel
theorem d_Row_number_37 : decode (mC m_Row_number) 37 = .ok (.iload 5, 2) := by decide +kernel
theorem d_Row_number_39 : decode (mC m_Row_number) 39 = .ok (.iadd, 1) := by decide +kernel
theorem d_Row_number_40 : decode (mC m_Row_number) 40 = .ok (.iaload, 1) := by decide +kernel
theorem d_Row_number_41 : decode (mC m_Row_number) 41 = .ok (.i2l, 1) := by decide +kernel
theorem d_Row_number_42 : decode (mC m_Row_number) 42 = .ok (.lor, 1) := by decide +kernel
theorem d_Row_number_43 : decode (mC m_Row_number) 43 = .ok (.lstore_n 3, 1) := by decide +kernel
theorem d_Row_number_44 : decode (mC m_Row_number) 44 = .ok (.iinc 5 (-1), 3) := by decide +kernel
theorem d_Row_number_47 : decode (mC m_Row_number) 47 = .ok (.goto (-24), 3) := by decide +kernel
theorem d_Row_number_50 : decode (mC m_Row_number) 50 = .ok (.lload_n 3, 1) := by decide +kernel
theorem d_Row_number_51 : decode (mC m_Row_number) 51 = .ok (.lreturn, 1) := by decide +kernel
def b_Row_number_23 (F : Nat) (K23 : Nat → Int32 → Int64 → Int32 → zW → Option (Int64 × zW)) (v0 : Nat) (v1 : Int32) (v3 : Int64) (v5 : Int32) (w : zW) : Option (Int64 × zW) := if v5 < 0 then (some (v3, w)) else ((getR w v0 0 0).bind fun x33 => (aget w x33 (v1 + v5)).bind fun x40 => K23 v0 v1 ((v3 <<< ((8 : Int32).toInt64 &&& 63)) ||| x40.toInt64) (v5 + (-1 : Int32)) w)
set_option maxRecDepth 100000 in
set_option maxHeartbeats 4000000 in
theorem b_Row_number_23_ok (G : zG) (F : Nat) (K23 : Nat → Int32 → Int64 → Int32 → zW → Option (Int64 × zW)) (hK23 : ∀ (v0 : Nat) (v1 : Int32) (v3 : Int64) (v5 : Int32) (w : zW) (r : (Int64 × zW)), K23 v0 v1 v3 v5 w = some r → zV G m_Row_number 23 [(0, .ref (z0 G + v0)), (1, .int v1), (3, .long v3), (5, .int v5)] [] w 0 0 (oJ r.1) r.2) (v0 : Nat) (v1 : Int32) (v3 : Int64) (v5 : Int32) (w : zW) (r : (Int64 × zW)) (h : b_Row_number_23 F K23 v0 v1 v3 v5 w = some r) : zV G m_Row_number 23 [(0, .ref (z0 G + v0)), (1, .int v1), (3, .long v3), (5, .int v5)] [] w 0 0 (oJ r.1) r.2 := by
  unfold b_Row_number_23 at h
  refine V_iload (i := 5) d_Row_number_23 3 rfl ?_
  refine V_if_lt (tgt := 50) d_Row_number_25 (by decide) (fun c25 => ?_) (fun c25 => ?_)
  · rw [if_pos c25] at h
    refine V_lload_n (i := 3) d_Row_number_50 rfl 2 rfl ?_
    obtain rfl := Option.some.inj h
    exact V_lret rfl (by decide) (by decide) d_Row_number_51
  · rw [if_neg c25] at h
    refine V_lload_n (i := 3) d_Row_number_28 rfl 2 rfl ?_
    refine V_bipush (v := 8) d_Row_number_29 (by decide) ?_
    refine V_lshl d_Row_number_31 ?_
    refine V_aload_n (i := 0) d_Row_number_32 rfl 0 rfl ?_
    obtain ⟨x33, e33, h⟩ := ob h
    refine V_getR (ci := 0) (k := 0) d_Row_number_33 e33 rfl (by decide) in_Row k36 ?_
    refine V_iload_n (i := 1) d_Row_number_36 rfl 1 rfl ?_
    refine V_iload (i := 5) d_Row_number_37 3 rfl ?_
    refine V_iadd d_Row_number_39 ?_
    obtain ⟨x40, e40, h⟩ := ob h
    refine V_aget d_Row_number_40 e40 ?_
    refine V_i2l d_Row_number_41 ?_
    refine V_lor d_Row_number_42 ?_
    refine V_lstore_n (i := 3) d_Row_number_43 rfl (by decide) rfl ?_
    refine V_iinc (i := 5) (v := (v5 + (-1 : Int32))) d_Row_number_44 3 rfl (congrArg (fun y => v5 + y) (by decide : Int32.ofInt (-1) = (-1 : Int32))) (by decide) rfl ?_
    refine V_goto (tgt := 23) d_Row_number_47 (by decide) ?_
    refine V_lv [2, 3, 1, 0] rfl ?_
    exact hK23 v0 v1 ((v3 <<< ((8 : Int32).toInt64 &&& 63)) ||| x40.toInt64) (v5 + (-1 : Int32)) w _ h
def l_Row_number_23 (F : Nat) : Nat → Nat → Int32 → Int64 → Int32 → zW → Option (Int64 × zW)
  | 0 => fun _ _ _ _ _ => none
  | n + 1 => b_Row_number_23 F (l_Row_number_23 F n)
theorem l_Row_number_23_ok (G : zG) (F : Nat) (n : Nat) :  ∀ (v0 : Nat) (v1 : Int32) (v3 : Int64) (v5 : Int32) (w : zW) (r : (Int64 × zW)), l_Row_number_23 F n v0 v1 v3 v5 w = some r → zV G m_Row_number 23 [(0, .ref (z0 G + v0)), (1, .int v1), (3, .long v3), (5, .int v5)] [] w 0 0 (oJ r.1) r.2 := by
  induction n with
  | zero => intro v0 v1 v3 v5 w r h; exact nomatch (show (none : Option (Int64 × zW)) = some r from h)
  | succ n ih => intro v0 v1 v3 v5 w r h; exact b_Row_number_23_ok G F (l_Row_number_23 F n) ih v0 v1 v3 v5 w r h
def b_Row_number_14 (F : Nat) (w : zW) : Option (Int64 × zW) := some ((0 : Int64), w)
set_option maxRecDepth 100000 in
set_option maxHeartbeats 4000000 in
theorem b_Row_number_14_ok (G : zG) (F : Nat) (w : zW) (r : (Int64 × zW)) (h : b_Row_number_14 F w = some r) : zV G m_Row_number 14 [] [] w 0 0 (oJ r.1) r.2 := by
  unfold b_Row_number_14 at h
  refine V_lconst (v := 0) d_Row_number_14 (by decide) ?_
  obtain rfl := Option.some.inj h
  exact V_lret rfl (by decide) (by decide) d_Row_number_15
def b_Row_number_0 (F : Nat) (v0 : Nat) (v1 : Int32) (v2 : Int32) (w : zW) : Option (Int64 × zW) := if v1 < 0 then (b_Row_number_14 F w) else ((getI w v0 0 1).bind fun x6 => if v2 ≤ (x6 - v1) then (l_Row_number_23 F F v0 v1 (0 : Int64) (v2 - (1 : Int32)) w) else (b_Row_number_14 F w))
set_option maxRecDepth 100000 in
set_option maxHeartbeats 4000000 in
theorem b_Row_number_0_ok (G : zG) (F : Nat) (v0 : Nat) (v1 : Int32) (v2 : Int32) (w : zW) (r : (Int64 × zW)) (h : b_Row_number_0 F v0 v1 v2 w = some r) : zV G m_Row_number 0 [(0, .ref (z0 G + v0)), (1, .int v1), (2, .int v2)] [] w 0 0 (oJ r.1) r.2 := by
  unfold b_Row_number_0 at h
  refine V_iload_n (i := 1) d_Row_number_0 rfl 1 rfl ?_
  refine V_if_lt (tgt := 14) d_Row_number_1 (by decide) (fun c1 => ?_) (fun c1 => ?_)
  · rw [if_pos c1] at h
    refine V_lv [] rfl ?_
    exact b_Row_number_14_ok G F w _ h
  · rw [if_neg c1] at h
    refine V_iload_n (i := 2) d_Row_number_4 rfl 2 rfl ?_
    refine V_aload_n (i := 0) d_Row_number_5 rfl 0 rfl ?_
    obtain ⟨x6, e6, h⟩ := ob h
    refine V_getI (ci := 0) (k := 1) d_Row_number_6 e6 rfl (by decide) in_Row k41 ?_
    refine V_iload_n (i := 1) d_Row_number_9 rfl 1 rfl ?_
    refine V_isub d_Row_number_10 ?_
    refine V_icmp_le (tgt := 16) d_Row_number_11 (by decide) (fun c11 => ?_) (fun c11 => ?_)
    · rw [if_pos c11] at h
      refine V_lconst (v := 0) d_Row_number_16 (by decide) ?_
      refine V_lstore_n (i := 3) d_Row_number_17 rfl (by decide) rfl ?_
      refine V_iload_n (i := 2) d_Row_number_18 rfl 3 rfl ?_
      refine V_iconst (v := 1) d_Row_number_19 (by decide) ?_
      refine V_isub d_Row_number_20 ?_
      refine V_istore (i := 5) d_Row_number_21 (by decide) rfl ?_
      refine V_lv [2, 3, 1, 0] rfl ?_
      exact l_Row_number_23_ok G F F v0 v1 (0 : Int64) (v2 - (1 : Int32)) w _ h
    · rw [if_neg c11] at h
      refine V_lv [] rfl ?_
      exact b_Row_number_14_ok G F w _ h
def f_Row_number (F : Nat) (v0 : Nat) (v1 : Int32) (v2 : Int32) (w : zW) : Option (Int64 × zW) := b_Row_number_0 F v0 v1 v2 w
theorem c_Row_number (G : zG) (F : Nat) (v0 : Nat) (v1 : Int32) (v2 : Int32) (w : zW) (r : (Int64 × zW)) (h : f_Row_number F v0 v1 v2 w = some r) : zCT G m_Row_number [.ref (z0 G + v0), .int v1, .int v2] w (oJ r.1) r.2 := zCT.ofV (by decide +kernel) (Or.inl ⟨kc_Row_number, rfl⟩) (Nat.le_of_ble_eq_true rfl) (b_Row_number_0_ok G F v0 v1 v2 w r h)
